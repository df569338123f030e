/** The edges of promise 4, with Term I: how a turn is cut into chords. */
public final class TurnEdgesTest {
    // round (0, 100), a quarter to the left, as fine as may be
    private static final int[][] EIGHT = {
        {19, 2}, {38, 8}, {55, 17}, {70, 30}, {83, 45}, {92, 62}, {98, 81}, {100, 100}};

    public static void main(String[] args) {
        coarseness();
        threeTimesAtMost();
        eightChords();
        quarters();
        rise();
        chordsNowhere();
        movesBehindATurn();
        fullCircle();
        radiusDownwards();
        Desk.finish("TurnEdgesTest");
    }

    private static void ends(String what, PathRide ride, int block, int x, int y, int z) {
        Desk.due(what + ": X of " + block, ride.block(block, 0), x);
        Desk.due(what + ": Y of " + block, ride.block(block, 1), y);
        Desk.due(what + ": Z of " + block, ride.block(block, 2), z);
    }

    private static void coarseness() {
        Desk.promise(4, "as long as RADIUS less half of the ROOT is more than tolerance, all CHORDS are halved");
        // radius 100: a quarter is off by 30, a half of it by 9, a fourth of it by 3, an eighth by 1
        int[][] cuts = {{2000, 1}, {31, 1}, {30, 1}, {29, 2}, {10, 2}, {9, 2}, {8, 4}, {4, 4}, {3, 4}, {2, 8}, {1, 8}, {0, 8}};
        for (int[] cut : cuts) {
            for (String turn : new String[] {"turn 0 100 ", "turn 0 -100 ", "turn 100 0 ", "turn -100 0 "}) {
                for (int quarters = 1; quarters <= 4; quarters++) {
                    Faults.right("tolerance " + cut[0] + ";" + turn + quarters + " 0 5;", quarters * cut[1]);
                    Faults.right("tolerance " + cut[0] + ";" + turn + "-" + quarters + " 0 5;", quarters * cut[1]);
                }
            }
        }
        // by the tolerance of the program: 50, if nothing is told. Half of the root is 120 for both
        Faults.right("turn 0 170 1 0 5;", 1);
        Faults.right("turn 0 171 1 0 5;", 2);
    }

    private static void threeTimesAtMost() {
        Desk.promise(4, "halved, three times at most");
        // still off by 482 behind three times, by 1922 behind two
        Faults.right("tolerance 482;turn 100000 0 1 0 5;", 8);
        Faults.right("tolerance 481;turn 100000 0 1 0 5;", 8);
        Faults.right("tolerance 0;turn 100000 0 1 0 5;", 8);
        Faults.right("tolerance 0;turn 0 50000 4 0 5;", 32);
        Faults.right("tolerance 1921;turn 100000 0 1 0 5;", 8);
        Faults.right("tolerance 1922;turn 100000 0 1 0 5;", 4);
    }

    private static void eightChords() {
        Desk.promise(4, "between a and b comes (a and b added) * RADIUS, by the ROOT, each of X, Y towards 0");
        PathRide left = Faults.right("tolerance 0;turn 0 100 1 0 5;", 8);
        PathRide right = Faults.right("tolerance 0;turn 0 100 -1 0 5;", 8);
        PathRide leftDown = Faults.right("tolerance 0;turn 0 -100 1 0 5;", 8);
        PathRide moved = Faults.right("tolerance 0;to 7 -9 3 5;turn 0 100 1 0 5;", 9);
        for (int k = 0; k < 8; k++) {
            ends("to the left", left, k, EIGHT[k][0], EIGHT[k][1], 0);
            ends("to the right", right, k, -EIGHT[k][0], EIGHT[k][1], 0);
            ends("to the left, downwards", leftDown, k, -EIGHT[k][0], -EIGHT[k][1], 0);
            ends("from another place", moved, k + 1, EIGHT[k][0] + 7, EIGHT[k][1] - 9, 3);
        }
        PathRide four = Faults.right("tolerance 3;turn 0 100 1 0 5;", 4);
        for (int k = 0; k < 4; k++) {
            ends("by four", four, k, EIGHT[2 * k + 1][0], EIGHT[2 * k + 1][1], 0);
        }
        PathRide two = Faults.right("tolerance 9;turn 0 100 1 0 5;", 2);
        ends("by two", two, 0, 70, 30, 0);
        ends("by two", two, 1, 100, 100, 0);
    }

    private static void quarters() {
        Desk.promise(4, "a quarter on it is (less y, x) to the left, (y, less x) to the right");
        // round (30, 40), from (-30, -40) as seen from there
        int[][] left = {{70, 10}, {60, 80}, {-10, 70}, {0, 0}};
        int[][] right = {{-10, 70}, {60, 80}, {70, 10}, {0, 0}};
        for (int n = 1; n <= 4; n++) {
            PathRide l = Faults.right("tolerance 2000;turn 30 40 " + n + " 0 5;", n);
            PathRide r = Faults.right("tolerance 2000;turn 30 40 -" + n + " 0 5;", n);
            for (int k = 0; k < n; k++) {
                ends("left by " + n, l, k, left[k][0], left[k][1], 0);
                ends("right by " + n, r, k, right[k][0], right[k][1], 0);
            }
        }
    }

    private static void rise() {
        Desk.promise(4, "Behind i of n CHORDS of the whole turn Z is on by the fourth number * i / n, towards 0");
        int[] tens = {1, 2, 3, 5, 6, 7, 8, 10};
        PathRide up = Faults.right("tolerance 0;turn 0 100 1 10 5;", 8);
        PathRide down = Faults.right("tolerance 0;turn 0 100 1 -10 5;", 8);
        PathRide from = Faults.right("tolerance 0;to 0 0 5 5;turn 0 100 1 -10 5;", 9);
        for (int k = 0; k < 8; k++) {
            Desk.due("up", up.block(k, 2), tens[k]);
            Desk.due("down", down.block(k, 2), -tens[k]);
            // what it is on by goes towards 0, not the place
            Desk.due("down from 5", from.block(k + 1, 2), 5 - tens[k]);
        }
        // the whole turn, not each quarter
        PathRide whole = Faults.right("tolerance 2000;turn 0 100 4 7 5;", 4);
        int[] sevens = {1, 3, 5, 7};
        for (int k = 0; k < 4; k++) {
            Desk.due("by quarters", whole.block(k, 2), sevens[k]);
        }
        PathRide none = Faults.right("turn 0 10 4 0 5;", 4);
        PathRide one = Faults.right("turn 0 10 4 1 5;", 4);
        for (int k = 0; k < 4; k++) {
            Desk.due("no rise", none.block(k, 2), 0);
            Desk.due("a rise of 1", one.block(k, 2), k < 3 ? 0 : 1);
        }
        PathRide high = Faults.right("tolerance 0;turn 0 100 4 -100000 5;", 32);
        Desk.due("behind 31 of 32", high.block(30, 2), -96875);
        Desk.due("behind all", high.block(31, 2), -100000);
    }

    private static void chordsNowhere() {
        Desk.promise(4, "turns CHORD by CHORD (all that goes nowhere is none)");
        // seen from the centre: (1, 2), (0, 2), (0, 2), (-1, 2)
        PathRide flat = Faults.right("tolerance 0;turn -2 -1 1 0 9;", 3);
        int[][] ends = {{-1, 1}, {-2, 1}, {-3, 1}};
        for (int k = 0; k < 3; k++) {
            ends("flat", flat, k, ends[k][0], ends[k][1], 0);
            Desk.due("of one move", flat.block(k, 9), 0);
        }
        // Z goes on by -1, -2, -3, -4; by 3 it goes on behind 2, 3, 4 alone
        PathRide down = Faults.right("tolerance 0;turn -2 -1 1 -4 9;", 4);
        ends("down", down, 1, -2, 1, -2);
        ends("down", down, 2, -2, 1, -3);
        Faults.right("tolerance 0;turn -2 -1 1 3 9;", 4);
        Faults.right("tolerance 0;turn -2 -1 1 1 9;", 3);
        // radius 1: (1, 0), (1, 1), (0, 1) seen from the centre; finer it does not become
        PathRide least = Faults.right("tolerance 0;turn -1 0 1 0 9;", 2);
        ends("radius 1", least, 0, 0, 1, 0);
        ends("radius 1", least, 1, -1, 1, 0);
        Faults.right("tolerance 1;turn -1 0 1 0 9;", 1);
        Desk.due("moves", flat.count(1), 1);
    }

    private static void movesBehindATurn() {
        Desk.promise(4, "by: so much on; turn: round a centre that lies so much in X, in Y from where one is");
        // a quarter of eight chords ends at 100 100 8
        String quarter = "tolerance 0;turn 0 100 1 8 5;";
        PathRide ride = Faults.right(quarter + "by 1 2 3 5;by 10 20 30 5;", 10);
        ends("by", ride, 8, 101, 102, 11);
        ends("by", ride, 9, 111, 122, 41);
        ride = Faults.right(quarter + "to 1 2 3 5;", 9);
        ends("to", ride, 8, 1, 2, 3);
        // on to the left: round 0 100 again, and on round 100 200
        ride = Faults.right(quarter + "turn -100 0 1 8 5;", 16);
        ends("turn", ride, 8, 98, 119, 9);
        ends("turn", ride, 15, 0, 200, 16);
        ride = Faults.right(quarter + "turn 0 100 1 -8 5;", 16);
        ends("turn", ride, 8, 119, 102, 7);
        ends("turn", ride, 15, 200, 200, 0);
        ride = Faults.right("tolerance 0;by 0 0 0 5;mark a;turn 0 100 2 8 5;by 1 2 3 5;again a 1;", 34);
        ends("by, told again", ride, 33, 2, 404, 22);
    }

    private static void fullCircle() {
        Desk.promise(4, "so many quarters of a circle");
        for (String centre : new String[] {"30 -40", "-1 0", "0 1000", "100 -100"}) {
            for (String quarters : new String[] {"4", "-4"}) {
                PathRide ride = Desk.riding("tolerance 0;to -7 8 9 9;turn " + centre + " " + quarters + " 0 9;");
                ends("all the way round", ride, ride.count(0) - 1, -7, 8, 9);
                Desk.due("where it begins comes twice", ride.comes(-7, 8, 9), 2);
            }
        }
    }

    private static void radiusDownwards() {
        Desk.promise(4, "RADIUS: ROOT of x * x + y * y (ROOT: the square root, downwards)");
        // 1 and 7, the root of 50: 7; a quarter adds up to the root of 100, half of it is 5
        Faults.right("tolerance 2;turn 1 7 1 0 9;", 1);
        Faults.right("tolerance 1;turn 1 7 1 0 9;", 2);
        // between: (6, -8) * 7 / 10
        PathRide ride = Faults.right("tolerance 1;turn 1 7 1 0 9;", 2);
        ends("between", ride, 0, 1 + 4, 7 - 5, 0);
        ends("behind", ride, 1, 1 + 7, 7 - 1, 0);
    }
}
