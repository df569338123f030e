/** What the tests have in common: they tell texts, compare answers and count the wrong ones. */
final class Desk {
    static final int MIN = Integer.MIN_VALUE;
    private static int asked;
    private static int wrong;
    private static String heading = "";

    private Desk() {
    }

    /** What is asked from here on is about this sentence of this promise; a wrong answer names both. */
    static void promise(int number, String sentence) {
        heading = "Promise " + number + ", \"" + sentence + "\": ";
    }

    static void due(String call, long got, long want) {
        asked++;
        if (got != want) {
            wrong++;
            System.out.println(heading + call + " answered " + got + ", due is " + want);
        }
    }

    static void due(String call, boolean got, boolean want) {
        due(call, got ? 1 : 0, want ? 1 : 0);
    }

    /** Puts a text on the tape, alone. */
    static void type(PathRide ride, String text) {
        ride.end(0);
        for (int i = 0; i < text.length(); i += 20) {
            int[] n = new int[5];
            for (int k = 0; k < 20; k++) {
                int sign = i + k < text.length() ? text.charAt(i + k) : ' ';
                n[k / 4] = n[k / 4] << 8 | sign;
            }
            due("feed", ride.feed(n[0], n[1], n[2], n[3], n[4]), i + 20);
        }
        due("end", ride.end(text.length()), text.length());
    }

    static int tell(PathRide ride, String text) {
        type(ride, text);
        return ride.program();
    }

    /** A new desk with a program that must be right. */
    static PathRide riding(String text) {
        PathRide ride = new PathRide();
        int blocks = tell(ride, text);
        due(text + " is right", blocks >= 0, true);
        return ride;
    }

    static String repeat(String text, int times) {
        StringBuilder all = new StringBuilder();
        for (int i = 0; i < times; i++) {
            all.append(text);
        }
        return all.toString();
    }

    static void finish(String test) {
        System.out.println(test + ": " + asked + " answers, " + wrong + " wrong");
        if (wrong > 0 || asked == 0) {
            System.exit(1);
        }
    }
}
