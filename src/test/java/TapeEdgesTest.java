/** The edges of promises 1 to 3: a new object, feed, end. */
public final class TapeEdgesTest {
    private static final String BLANK_PROGRAM = " \n  ";

    public static void main(String[] args) {
        newObject();
        feedUpToFull();
        feedThatIsTooMuch();
        feedHighestFirst();
        feedHighBytes();
        end();
        endRefused();
        endAlone();
        Desk.finish("TapeEdgesTest");
    }

    private static void newObject() {
        Desk.promise(1, "No PROGRAM (as one without LINES)");
        int[] counts = {0, 0, 0, 0, 0, 0, 0, -1, 100, 0, 12, 10, 50, 0, 0, 0};
        PathRide ride = new PathRide();
        for (int what = 0; what < counts.length; what++) {
            Desk.due("count " + what, ride.count(what), counts[what]);
        }
        PathRide empty = new PathRide();
        Desk.due("program of an empty tape", empty.program(), 0);
        Twins.alike("an empty program", empty, new PathRide());
        PathRide blank = new PathRide();
        Desk.due("program of blanks", Desk.tell(blank, BLANK_PROGRAM), 0);
        Twins.alike("a program of blanks", blank, new PathRide());
        // one with LINES, but without blocks, is another one
        Desk.due("a move that goes nowhere", Desk.riding("by 0 0 0 1;").count(1), 1);
        Desk.due("moves of a new object", new PathRide().count(1), 0);
    }

    /** A desk with so many bytes on its tape: a program whose last byte ends its line. */
    private static PathRide taped(int bytes) {
        PathRide ride = new PathRide();
        Desk.type(ride, text(bytes));
        return ride;
    }

    private static String text(int bytes) {
        return "to 1 2 3 4" + Desk.repeat(" ", bytes - 11) + ";";
    }

    private static void feedUpToFull() {
        Desk.promise(2, "Twenty bytes come behind the TAPE: how many it has");
        PathRide ride = new PathRide();
        for (int n = 20; n <= 400; n += 20) {
            Desk.due("feed", ride.feed(0x20202020, 0x0a0a0a0a, 0x200a200a, 0x20202020, 0x20202020), n);
            Desk.due("count 14", ride.count(14), n);
        }
        Desk.due("program of 400 blanks", ride.program(), 0);
        Desk.due("feed of the tape that is empty again", ride.feed(0, 0, 0, 0, 0), 20);
        // they come behind what there is
        ride = new PathRide();
        Desk.type(ride, "to 1 2 3 4");
        Desk.due("feed", ride.feed(0x353b2020, 0x20202020, 0x20202020, 0x20202020, 0x20202020), 30);
        Desk.due("program", ride.program(), 1);
        Desk.due("its feed", ride.block(0, 4), 45);
    }

    private static void feedThatIsTooMuch() {
        Desk.promise(2, "NONE, and none comes, if it would have more than 400");
        Desk.due("feed of 379", taped(379).feed(0, 0, 0, 0, 0), 399);
        Desk.due("feed of 380", taped(380).feed(0, 0, 0, 0, 0), 400);
        for (int n : new int[] {381, 382, 399, 400}) {
            Twins.refused("feed of " + n, () -> taped(n), r -> r.feed(0x39393939, 9, 9, 9, 9), -1);
            PathRide ride = taped(n);
            ride.feed(0x39393939, 9, 9, 9, 9);
            Desk.due("bytes behind a feed of " + n, ride.count(14), n);
            Desk.due("the program behind it", ride.program(), 1);
        }
        PathRide ride = taped(400);
        ride.feed(1, 1, 1, 1, 1);
        ride.end(380);
        Desk.due("feed of 380, where one was refused", ride.feed(0x20202020, 0x20202020, 0x20202020, 0x20202020, 0x2020203b), 400);
        Desk.due("its last byte ends the line", ride.program(), 1);
    }

    private static void feedHighestFirst() {
        Desk.promise(2, "of each number the highest first");
        PathRide ride = new PathRide();
        // "to 12 -34 567 890 ; "
        ride.feed(0x746f2031, 0x32202d33, 0x34203536, 0x37203839, 0x30203b20);
        Desk.due("program", ride.program(), 1);
        int[] block = {12, -34, 567, 568, 890};
        for (int what = 0; what < block.length; what++) {
            Desk.due("block 0 " + what, ride.block(0, what), block[what]);
        }
    }

    private static void feedHighBytes() {
        Desk.promise(2, "of each number the highest first");
        for (int high : new int[] {0x7f, 0x80, 0xff}) {
            for (int place = 0; place < 20; place++) {
                int[] n = {0x20202020, 0x20202020, 0x20202020, 0x20202020, 0x20202020};
                int shift = 8 * (3 - place % 4);
                n[place / 4] = n[place / 4] & ~(255 << shift) | high << shift;
                PathRide ride = new PathRide();
                ride.feed(n[0], n[1], n[2], n[3], n[4]);
                Desk.due("byte " + high + " at " + place, ride.program(), -2 - (8 * place + 1));
            }
        }
    }

    private static void end() {
        Desk.promise(3, "The TAPE has its first n bytes alone: n");
        int[][] ends = {{20, 0}, {20, 1}, {20, 19}, {20, 20}, {400, 0}, {400, 399}, {400, 400}};
        for (int[] end : ends) {
            PathRide ride = taped(end[0]);
            Desk.due("end " + end[1] + " of " + end[0], ride.end(end[1]), end[1]);
            Desk.due("count 14", ride.count(14), end[1]);
        }
        Desk.due("end 0 of an empty tape", new PathRide().end(0), 0);
        Twins.alike("end of all", ended(11, 11), taped(11));
        Twins.alike("end 0", ended(11, 0), new PathRide());
    }

    private static PathRide ended(int bytes, int n) {
        PathRide ride = taped(bytes);
        ride.end(n);
        return ride;
    }

    private static void endRefused() {
        Desk.promise(3, "NONE, and nothing happens, if it has not so many, or n is below 0");
        for (int n : new int[] {21, 22, 400, 401, -1, -2, -20, Integer.MAX_VALUE, Integer.MIN_VALUE}) {
            Twins.refused("end " + n + " of 20", () -> taped(20), r -> r.end(n), -1);
        }
        for (int n : new int[] {401, -1}) {
            Twins.refused("end " + n + " of 400", () -> taped(400), r -> r.end(n), -1);
        }
        for (int n : new int[] {1, -1}) {
            Twins.refused("end " + n + " of 0", PathRide::new, r -> r.end(n), -1);
        }
        Twins.refusedEverywhere("end -1", r -> r.end(-1), -1);
        Twins.refusedEverywhere("end 12", r -> r.end(12), -1);
        // what was cut off does not come back
        Twins.refused("end 20 behind end 19", () -> ended(20, 19), r -> r.end(20), -1);
    }

    private static int cut(String text, int bytes) {
        PathRide ride = new PathRide();
        Desk.type(ride, text);
        Desk.due("end " + bytes, ride.end(bytes), bytes);
        return ride.program();
    }

    private static void endAlone() {
        Desk.promise(3, "The TAPE has its first n bytes alone");
        PathRide ride = taped(11);
        ride.end(10);
        Desk.due("program without its last byte", ride.program(), -2 - (8 * 10 + 1));
        ride = taped(20);
        ride.end(10);
        // "5;" comes right behind the first ten
        Desk.due("feed behind them", ride.feed(0x353b2020, 0x20202020, 0x20202020, 0x20202020, 0x20202020), 30);
        Desk.due("program", ride.program(), 1);
        Desk.due("its feed", ride.block(0, 4), 45);
        // cut within a number, within a word: what stood behind it is not seen any more
        Desk.due("cut within a number", cut("to 1 2 3 45;", 10), -2 - (8 * 10 + 1));
        Desk.due("cut within a number", cut("jerk 123;", 7), -2 - (8 * 7 + 1));
        Desk.due("cut within a name", cut("mark abcdefgh;", 12), -2 - (8 * 12 + 1));
        Desk.due("cut within a word", cut("markaby;", 4), -2 - (8 * 4 + 1));
        Desk.due("cut within blanks", cut("to 1 2 3 4    ;", 12), -2 - (8 * 12 + 1));
        Desk.due("cut ahead of the end of a line", cut("to 1 2 3 4;to", 11), 1);
        ride = taped(20);
        Desk.due("end 20", ride.end(20), 20);
        Desk.due("program of all its bytes", ride.program(), 1);
    }
}
