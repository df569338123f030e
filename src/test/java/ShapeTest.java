/** Promises 20 to 23 and 28 to 33: spots, what is gone twice, layers, meetings, the box, legs. */
public final class ShapeTest {
    // round a square, along its first side again, up, and over that side
    private static final String SQUARE = "to 100 0 0 5;to 100 100 0 5;to 0 100 0 5;to 0 0 0 5;"
        + "to 100 0 0 5;to 100 0 50 5;to 0 0 50 5;";

    public static void main(String[] args) {
        spots();
        comes();
        twice();
        layers();
        meets();
        kindsOfMeeting();
        box();
        near();
        legs();
        asManyAsMayBe();
        nothingTold();
        Desk.finish("ShapeTest");
    }

    private static void spots() {
        PathRide ride = Desk.riding(SQUARE);
        Desk.due("spots", ride.spots(), 6);
        int[][] spots = {{0, 0, 0, 2}, {100, 0, 0, 2}, {100, 100, 0, 1}, {0, 100, 0, 1}, {100, 0, 50, 1}, {0, 0, 50, 1}};
        for (int k = 0; k < 6; k++) {
            for (int what = 0; what < 4; what++) {
                Desk.due("spot " + k + " " + what, ride.spot(k, what), spots[k][what]);
            }
        }
        Desk.due("spot 6", ride.spot(6, 0), Desk.MIN);
        Desk.due("spot -1", ride.spot(-1, 0), Desk.MIN);
        Desk.due("spot 0 4", ride.spot(0, 4), Desk.MIN);
        Desk.due("spot 0 -1", ride.spot(0, -1), Desk.MIN);
        Desk.due("spot of the greatest", ride.spot(Integer.MAX_VALUE, 0), Desk.MIN);
    }

    private static void comes() {
        PathRide ride = Desk.riding(SQUARE);
        Desk.due("comes", ride.comes(0, 0, 0), 2);
        Desk.due("comes", ride.comes(100, 0, 0), 2);
        Desk.due("comes", ride.comes(100, 0, 50), 1);
        Desk.due("comes", ride.comes(100, 0, 49), 0);
        Desk.due("comes", ride.comes(100, 1, 50), 0);
        Desk.due("comes", ride.comes(101, 0, 50), 0);
        Desk.due("comes", ride.comes(Integer.MIN_VALUE, Integer.MAX_VALUE, 0), 0);
        Desk.due("comes between two spots", ride.comes(50, 0, 0), 0);
    }

    private static void twice() {
        PathRide ride = Desk.riding(SQUARE);
        Desk.due("twice -1", ride.twice(-1), 1);
        int[] firsts = {0, 1, 2, 3, 0, 5, 6};
        for (int k = 0; k < 7; k++) {
            Desk.due("twice " + k, ride.twice(k), firsts[k]);
        }
        Desk.due("twice 7", ride.twice(7), -1);
        Desk.due("twice -2", ride.twice(-2), -1);
        ride = Desk.riding("mark a;to 10 0 0 5;to 0 0 0 5;again a 2;to 5 0 0 5;to 10 0 0 5;");
        Desk.due("twice -1, there and back", ride.twice(-1), 5);
        Desk.due("the first one, not the last", ride.twice(5), 0);
        Desk.due("back", ride.twice(1), 0);
        Desk.due("a half of it is another one", ride.twice(6), 6);
        Desk.due("the other half, too", ride.twice(7), 7);
    }

    private static void layers() {
        PathRide ride = Desk.riding(SQUARE);
        Desk.due("layers", ride.layer(-1, 0), 2);
        Desk.due("layers, whatever what is", ride.layer(-1, Integer.MIN_VALUE), 2);
        int[][] layers = {{0, 5, 500}, {50, 1, 100}};
        for (int k = 0; k < 2; k++) {
            for (int what = 0; what < 3; what++) {
                Desk.due("layer " + k + " " + what, ride.layer(k, what), layers[k][what]);
            }
        }
        Desk.due("layer 0 3", ride.layer(0, 3), Desk.MIN);
        Desk.due("layer 0 -1", ride.layer(0, -1), Desk.MIN);
        Desk.due("layer 2", ride.layer(2, 0), Desk.MIN);
        Desk.due("layer -2", ride.layer(-2, 0), Desk.MIN);
        ride = Desk.riding("to 0 0 -7 5;to 3 4 -7 5;to 3 4 2 5;to 3 9 2 5;to 9 9 -7 5;to 9 10 -7 5;");
        Desk.due("layers", ride.layer(-1, 0), 2);
        Desk.due("layer 0, below", ride.layer(0, 0), -7);
        Desk.due("its blocks", ride.layer(0, 1), 2);
        Desk.due("its lengths", ride.layer(0, 2), 6);
        Desk.due("layer 1", ride.layer(1, 0), 2);
        Desk.due("up and down alone", Desk.riding("to 0 0 9 5;to 5 0 0 5;").layer(-1, 0), 0);
    }

    private static void meets() {
        PathRide ride = Desk.riding(SQUARE);
        // 0 and 3 at an end, 0 and 4 all along, 1 and 4 at an end
        Desk.due("meets", ride.meets(0), 3);
        Desk.due("the first two", ride.meets(1), 0);
        Desk.due("the other one", ride.meets(2), 3);
        Desk.due("meets 3", ride.meets(3), -1);
        Desk.due("meets -1", ride.meets(-1), -1);
        ride = Desk.riding("to 9 0 0 5;to 9 9 0 5;");
        Desk.due("one right behind the other", ride.meets(0), 0);
        Desk.due("none", ride.meets(1), -2);
        Desk.due("none", ride.meets(2), -2);
    }

    /** Whether the block from 0 0 to 10 4 meets one between two other places. */
    private static void two(boolean meet, int ax, int ay, int bx, int by) {
        String text = "to 10 4 0 5;to 10 4 9 5;to " + ax + " " + ay + " 9 5;to " + ax + " " + ay + " 0 5;to " + bx + " " + by + " 0 5;";
        PathRide ride = Desk.riding(text);
        Desk.due("blocks", ride.count(0), 5);
        Desk.due("meets: " + text, ride.meets(0), meet ? 1 : 0);
        Desk.due("the lesser", ride.meets(1), meet ? 0 : -2);
        Desk.due("the other one", ride.meets(2), meet ? 4 : -2);
    }

    private static void kindsOfMeeting() {
        two(true, 0, 4, 10, 0);
        two(true, 5, 2, 5, 9);
        two(true, 5, 9, 5, 2);
        two(true, 3, 9, 3, -9);
        two(false, 5, 3, 5, 9);
        two(false, 5, 3, 5, 4);
        two(true, 5, 2, 15, 6);
        two(true, 15, 6, -5, -2);
        two(false, 15, 6, 20, 8);
        two(false, 1, 1, 11, 5);
        two(false, 0, 1, 9, 4);
        two(false, 11, 0, 11, 9);
        two(true, 0, 0, -5, 9);
        // not at a place with whole numbers
        two(true, 4, 2, 4, 1);
        Desk.due("another layer", Desk.riding("to 10 0 0 5;to 10 0 9 5;to 5 -5 9 5;to 5 5 9 5;").meets(0), 0);
        String far = "to 100000 0 0 5;to 99999 100000 0 5;";
        Desk.due("at 1", Desk.riding(far + "to -99997 -100000 0 5;").meets(0), 1);
        Desk.due("at 0", Desk.riding(far + "to -99999 -100000 0 5;").meets(0), 1);
        Desk.due("ahead of 0 by a half", Desk.riding(far + "to -100000 -100000 0 5;").meets(0), 0);
    }

    private static void box() {
        PathRide ride = Desk.riding("to 10 -5 7 5;to -3 20 6 5;");
        int[][] box = {{-3, 10}, {-5, 20}, {0, 7}};
        for (int axis = 0; axis < 3; axis++) {
            for (int side = 0; side < 2; side++) {
                Desk.due("box " + axis + " " + side, ride.box(axis, side), box[axis][side]);
            }
            Desk.due("box " + axis + " 2", ride.box(axis, 2), Desk.MIN);
            Desk.due("box " + axis + " -1", ride.box(axis, -1), Desk.MIN);
        }
        Desk.due("box 3 0", ride.box(3, 0), Desk.MIN);
        Desk.due("box -1 0", ride.box(-1, 0), Desk.MIN);
        Desk.due("the beginning counts", Desk.riding("to 10 10 10 5;").box(1, 0), 0);
    }

    private static void near() {
        PathRide ride = Desk.riding(SQUARE);
        Desk.due("near 0", ride.near(60, -10, 0, 0), 1);
        Desk.due("near 1: the root of 1700", ride.near(60, -10, 0, 1), 41);
        Desk.due("the first of several", ride.near(50, 50, 0, 0), 0);
        Desk.due("the first of two", ride.near(50, 0, 50, 0), 4);
        Desk.due("how far", ride.near(50, 0, 50, 1), 50);
        Desk.due("right there", ride.near(0, 100, 0, 0), 3);
        Desk.due("right there", ride.near(0, 100, 0, 1), 0);
        Desk.due("as far as may be", ride.near(100000, 100000, -100000, 1), 173089);
        Desk.due("near 2", ride.near(0, 0, 0, 2), -1);
        Desk.due("near -1", ride.near(0, 0, 0, -1), -1);
        int[] beyond = {100001, -100001, Integer.MIN_VALUE, Integer.MAX_VALUE};
        for (int far : beyond) {
            Desk.due("near " + far, ride.near(far, 0, 0, 0), -1);
            Desk.due("near " + far, ride.near(0, far, 0, 1), -1);
            Desk.due("near " + far, ride.near(0, 0, far, 0), -1);
        }
        // nearer by less than what a root tells
        Desk.due("by the squares", Desk.riding("to 100 0 0 5;to 1 1 0 5;").near(51, 0, 0, 0), 1);
    }

    private static void legs() {
        PathRide ride = Desk.riding(SQUARE);
        Desk.due("common, never kept", ride.common(0), -2);
        Desk.due("keep", ride.keep(0), 6);
        Desk.due("common 0", ride.common(0), 6);
        Desk.due("common 1, never kept", ride.common(1), -2);
        Desk.due("another program", Desk.tell(ride, "to 0 100 0 9;to 100 100 0 9;to 100 100 5 9;"), 3);
        Desk.due("two of them back", ride.common(0), 2);
        Desk.due("keep", ride.keep(1), 3);
        Desk.due("common 1", ride.common(1), 3);
        Desk.due("a fault", Desk.tell(ride, "to"), -2 - (8 * 2 + 1));
        Desk.due("common 0 stays", ride.common(0), 2);
        Desk.tell(ride, SQUARE);
        Desk.due("common 1", ride.common(1), 2);
        Desk.due("common 0", ride.common(0), 6);
        Desk.tell(ride, "");
        Desk.due("no legs here", ride.common(0), 0);
        Desk.due("no legs are kept", ride.keep(0), 0);
        Desk.tell(ride, SQUARE);
        Desk.due("no legs were kept", ride.common(0), 0);
        int[] no = {-1, 2, Integer.MIN_VALUE, Integer.MAX_VALUE};
        for (int k : no) {
            Desk.due("keep " + k, ride.keep(k), -1);
            Desk.due("common " + k, ride.common(k), -1);
        }
        // a leg gone twice here is one, though it was kept once
        ride = Desk.riding("to 10 0 0 5;to 0 0 0 5;to 10 0 0 5;");
        Desk.due("keep", ride.keep(0), 1);
        Desk.due("common", ride.common(0), 1);
        Desk.due("nothing came of it", ride.count(13), 0);
    }

    /** 64 blocks: two turns of 32 chords each, all the way up. */
    private static void asManyAsMayBe() {
        PathRide ride = Desk.riding("tolerance 0;turn 0 1000 4 50 700;turn 0 2000 4 70 900;");
        Desk.due("blocks", ride.count(0), 64);
        Desk.due("spots", ride.spots(), 65);
        Desk.due("the last spot", ride.spot(64, 2), 120);
        Desk.due("it comes once", ride.spot(64, 3), 1);
        Desk.due("comes", ride.comes(0, 0, 120), 1);
        Desk.due("near", ride.near(0, 0, 120, 0), 64);
        Desk.due("box", ride.box(2, 1), 120);
        Desk.due("the last corner", ride.corner(62, 0) > 0, true);
        Desk.due("no corner behind the last block", ride.corner(63, 0), -1);
        Desk.due("passes", ride.block(63, 8) > 0, true);
        Desk.due("twice", ride.twice(63), 63);
        Desk.due("twice", ride.twice(-1), 0);
        Desk.due("keep", ride.keep(0), 64);
        Desk.due("common", ride.common(0), 64);
        Desk.due("layers", ride.layer(-1, 0), 0);
        Desk.due("the place at the end", ride.place(ride.count(3), 2), 120);
        while (ride.till() > 0) {
            ride.ticks(60);
        }
        Desk.due("the block of s", ride.count(7), 63);
        Desk.due("where", ride.where(2), 120);
    }

    private static void nothingTold() {
        PathRide ride = new PathRide();
        Desk.due("spots", ride.spots(), 0);
        Desk.due("spot", ride.spot(0, 3), Desk.MIN);
        Desk.due("comes", ride.comes(0, 0, 0), 0);
        Desk.due("twice -1", ride.twice(-1), 0);
        Desk.due("twice 0", ride.twice(0), -1);
        Desk.due("layer -1", ride.layer(-1, 5), 0);
        Desk.due("layer 0", ride.layer(0, 1), Desk.MIN);
        Desk.due("meets 0", ride.meets(0), 0);
        Desk.due("meets 1", ride.meets(1), -2);
        Desk.due("box", ride.box(0, 0), Desk.MIN);
        Desk.due("near", ride.near(0, 0, 0, 1), -1);
        Desk.due("keep", ride.keep(1), 0);
        Desk.due("common", ride.common(1), 0);
        ride = Desk.riding("to 0 0 0 5;");
        Desk.due("spots of what goes nowhere", ride.spots(), 0);
    }
}
