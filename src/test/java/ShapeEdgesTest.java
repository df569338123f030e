/** The edges of promises 20 to 23, 28 to 33 and 36: spots, what is gone twice, layers, meetings, legs, counts. */
public final class ShapeEdgesTest {
    // round a square, along its first side again, up, and over that side
    private static final String SQUARE = "to 100 0 0 5;to 100 100 0 5;to 0 100 0 5;to 0 0 0 5;"
        + "to 100 0 0 5;to 100 0 50 5;to 0 0 50 5;";
    private static final int[] ODD = {-1, -2, 64, 65, 66, Integer.MAX_VALUE, Integer.MIN_VALUE};

    public static void main(String[] args) {
        spotsWithoutBlocks();
        spotsUnlike();
        spotWithoutThese();
        spotsOfAFullWay();
        comesOrNot();
        twiceOfOthers();
        twiceThereAndBack();
        layerWithoutThese();
        layersInTheirOrder();
        meetsOfOthers();
        meetsAtAnEnd();
        meetsAlongALine();
        meetsNotRightBehind();
        meetsOfOneLayer();
        meetsFirstTwo();
        boxWithoutThese();
        boxOfAllSpots();
        nearWithoutThese();
        nearFirstOfSeveral();
        nearHowFar();
        keepWithoutThatNumber();
        keepLegs();
        commonNeverKept();
        commonLegs();
        countOfOthers();
        Desk.finish("ShapeEdgesTest");
    }

    // ---- promises 20 to 22 ----

    private static void spotsWithoutBlocks() {
        Desk.promise(20, "SPOTS (without BLOCKS none)");
        Desk.due("spots of a new desk", new PathRide().spots(), 0);
        Desk.due("spots without blocks", Desk.riding("mark a;by 0 0 0 5;to 0 0 0 5;").spots(), 0);
        Desk.due("spots of one block", Desk.riding("by 0 0 1 5;").spots(), 2);
        Desk.due("spots of two", Desk.riding("by 0 0 1 5;by 0 0 1 5;").spots(), 3);
        Desk.due("spots there and back", Desk.riding("by 0 0 1 5;by 0 0 -1 5;").spots(), 2);
        PathRide ride = Desk.riding(SQUARE);
        Desk.tell(ride, "");
        Desk.due("spots, when another program is told", ride.spots(), 0);
    }

    private static void spotsUnlike() {
        Desk.promise(20, "where the way begins, and the ends of BLOCKS, unlike ones, in the order in which they come");
        // unlike by one axis alone
        PathRide ride = Desk.riding("to 1 0 0 5;to 0 1 0 5;to 0 0 1 5;to -1 0 0 5;to 0 -1 0 5;to 0 0 -1 5;to 0 0 0 5;");
        int[][] spots = {{0, 0, 0, 2}, {1, 0, 0, 1}, {0, 1, 0, 1}, {0, 0, 1, 1}, {-1, 0, 0, 1}, {0, -1, 0, 1}, {0, 0, -1, 1}};
        Desk.due("spots", ride.spots(), spots.length);
        Desk.promise(21, "Of the k-th of the SPOTS (0 the first) what 0 to 2: X, Y, Z, 3: how often it comes");
        for (int k = 0; k < spots.length; k++) {
            for (int what = 0; what <= 3; what++) {
                Desk.due("spot " + k + " " + what, ride.spot(k, what), spots[k][what]);
            }
        }
        // where a move goes nowhere it does not come again
        ride = Desk.riding("to 0 0 0 5;to 5 0 0 5;to 5 0 0 5;by 0 0 0 5;");
        Desk.due("spots", ride.spots(), 2);
        Desk.due("how often the first comes", ride.spot(0, 3), 1);
        Desk.due("how often the other one comes", ride.spot(1, 3), 1);
    }

    private static void spotWithoutThese() {
        Desk.promise(21, "Integer.MIN_VALUE without these");
        for (int what = -1; what <= 4; what++) {
            int asked = what;
            // four spots on its way
            for (int k : new int[] {-1, -2, 4, 5, Integer.MAX_VALUE, Integer.MIN_VALUE}) {
                Twins.refusedEverywhere("spot " + k + " " + what, r -> r.spot(k, asked), Desk.MIN);
            }
            Twins.refused("spot 0 " + what + " of a new desk", Twins::fresh, r -> r.spot(0, asked), Desk.MIN);
        }
        for (int what : new int[] {-1, 4, Integer.MAX_VALUE, Integer.MIN_VALUE}) {
            for (int k : new int[] {0, 3}) {
                Twins.refusedEverywhere("spot " + k + " " + what, r -> r.spot(k, what), Desk.MIN);
            }
        }
        Desk.due("spot 3 2", Twins.going().spot(3, 2), 90);
        Desk.due("spot 0 0", Twins.going().spot(0, 0), 0);
    }

    private static PathRide full() {
        return Desk.riding("tolerance 0;turn 0 1000 4 50 700;turn 0 2000 4 70 900;");
    }

    private static void spotsOfAFullWay() {
        Desk.promise(21, "Of the k-th of the SPOTS (of 64 BLOCKS)");
        PathRide ride = full();
        Desk.due("blocks", ride.count(0), 64);
        Desk.due("spots", ride.spots(), 65);
        Desk.due("spot 63 3", ride.spot(63, 3), 1);
        Desk.due("spot 64 2", ride.spot(64, 2), 120);
        Desk.due("spot 64 3", ride.spot(64, 3), 1);
        Desk.due("spot 65 2", ride.spot(65, 2), Desk.MIN);
        // there and back sixteen times
        ride = Faults.right("mark a;to 9 0 0 5;to 0 0 0 5;again a 3;again a 3;", 32);
        Desk.due("spots", ride.spots(), 2);
        Desk.due("how often the first comes", ride.spot(0, 3), 17);
        Desk.due("how often the other one comes", ride.spot(1, 3), 16);
    }

    private static void comesOrNot() {
        Desk.promise(22, "How often the SPOT comes that is there; 0: there is none");
        PathRide ride = Desk.riding(SQUARE);
        int[][] comes = {{0, 0, 0, 2}, {100, 0, 0, 2}, {100, 100, 0, 1}, {0, 100, 0, 1}, {100, 0, 50, 1}, {0, 0, 50, 1},
            {1, 0, 0, 0}, {-1, 0, 0, 0}, {0, 1, 0, 0}, {0, 0, 1, 0}, {0, 0, 49, 0}, {0, 0, 51, 0}, {99, 0, 0, 0},
            {101, 0, 0, 0}, {50, 0, 0, 0}, {100001, 0, 0, 0}};
        for (int[] row : comes) {
            Desk.due("comes " + row[0] + " " + row[1] + " " + row[2], ride.comes(row[0], row[1], row[2]), row[3]);
        }
        for (int n : new int[] {100001, -100001, Integer.MAX_VALUE, Integer.MIN_VALUE}) {
            Twins.refusedEverywhere("comes " + n, r -> r.comes(n, n, n), 0);
            Twins.refusedEverywhere("comes " + n, r -> r.comes(0, 0, n), 0);
        }
        Desk.due("comes, of a new desk", new PathRide().comes(0, 0, 0), 0);
        Desk.due("comes, without blocks", Desk.riding("by 0 0 0 5;").comes(0, 0, 0), 0);
        ride = Desk.riding("mark a;to 9 0 0 5;to 0 0 0 5;again a 3;");
        Desk.due("comes 0 0 0", ride.comes(0, 0, 0), 5);
        Desk.due("comes 9 0 0", ride.comes(9, 0, 0), 4);
    }

    // ---- promise 23 ----

    private static void twiceOfOthers() {
        Desk.promise(23, "NONE for others than NONE (how many) and BLOCKS");
        for (int block : new int[] {-2, -3, 3, 4, 64, Integer.MAX_VALUE, Integer.MIN_VALUE}) {
            Twins.refusedEverywhere("twice " + block, r -> r.twice(block), -1);
        }
        Twins.refused("twice 0 of a new desk", Twins::fresh, r -> r.twice(0), -1);
        Desk.due("twice -1 of a new desk", new PathRide().twice(-1), 0);
        Desk.due("twice -1", Twins.going().twice(-1), 0);
        for (int block = 0; block < 3; block++) {
            Desk.due("twice " + block, Twins.going().twice(block), block);
        }
        Desk.due("twice 63", full().twice(63), 63);
        Desk.due("twice 64", full().twice(64), -1);
    }

    private static void twice(String text, int many, int... firsts) {
        PathRide ride = Faults.right(text, firsts.length);
        Desk.due("twice -1 of " + text, ride.twice(-1), many);
        for (int block = 0; block < firsts.length; block++) {
            Desk.due("twice " + block + " of " + text, ride.twice(block), firsts[block]);
        }
    }

    private static void twiceThereAndBack() {
        Desk.promise(23, "the first one that goes as it does, or back (itself, if there is none ahead)");
        twice("to 9 0 0 5;", 0, 0);
        twice("to 9 0 0 5;to 0 0 0 5;", 1, 0, 0);
        twice("to 9 0 0 5;to 0 0 0 5;to 9 0 0 5;", 2, 0, 0, 0);
        twice("to 9 0 0 5;to 0 9 0 5;to 0 0 0 5;to 9 0 0 5;", 1, 0, 1, 2, 0);
        twice("to 9 0 0 5;to 0 9 0 5;to 0 0 0 5;to 0 9 0 5;to 9 0 0 5;", 2, 0, 1, 2, 2, 1);
        // as long, but elsewhere; one end alone; half of it; the other way on
        twice("to 9 0 0 5;to 18 0 0 5;to 9 0 0 5;", 1, 0, 1, 1);
        twice("to 9 0 0 5;to 4 0 0 5;to 0 0 0 5;", 0, 0, 1, 2);
        twice("to 9 0 0 5;to 9 0 1 5;to 0 0 1 5;to 0 0 0 5;", 0, 0, 1, 2, 3);
        // another feed is the same way
        twice("to 9 0 0 5;to 0 0 0 6;", 1, 0, 0);
        twice(SQUARE, 1, 0, 1, 2, 3, 0, 5, 6);
    }

    // ---- promise 28 ----

    private static void layerWithoutThese() {
        Desk.promise(28, "Integer.MIN_VALUE without these");
        for (int what = -1; what <= 3; what++) {
            int asked = what;
            for (int k : new int[] {-2, -3, 1, 2, 64, Integer.MAX_VALUE, Integer.MIN_VALUE}) {
                Twins.refusedEverywhere("layer " + k + " " + what, r -> r.layer(k, asked), Desk.MIN);
            }
            Twins.refused("layer 0 " + what + " of a new desk", Twins::fresh, r -> r.layer(0, asked), Desk.MIN);
        }
        for (int what : new int[] {-1, 3, Integer.MAX_VALUE, Integer.MIN_VALUE}) {
            Twins.refusedEverywhere("layer 0 " + what, r -> r.layer(0, what), Desk.MIN);
        }
        Desk.promise(28, "k NONE: how many LAYERS (whatever what is)");
        for (int what : new int[] {-1, 0, 1, 2, 3, 4, Integer.MAX_VALUE, Integer.MIN_VALUE}) {
            Desk.due("layer -1 " + what + " of a new desk", new PathRide().layer(-1, what), 0);
            Desk.due("layer -1 " + what, Twins.going().layer(-1, what), 1);
            Desk.due("layer -1 " + what, Desk.riding(SQUARE).layer(-1, what), 2);
        }
    }

    private static void layers(String text, int[]... due) {
        PathRide ride = Desk.riding(text);
        Desk.due("layers of " + text, ride.layer(-1, 0), due.length);
        for (int k = 0; k < due.length; k++) {
            for (int what = 0; what <= 2; what++) {
                Desk.due("layer " + k + " " + what + " of " + text, ride.layer(k, what), due[k][what]);
            }
        }
        Desk.due("a layer more of " + text, ride.layer(due.length, 0), Desk.MIN);
    }

    private static void layersInTheirOrder() {
        Desk.promise(28, "LAYERS: the Zs that BLOCKS have at both ends, in the order in which they first come");
        layers("to 9 0 0 5;", new int[] {0, 1, 9});
        layers("to 0 0 9 5;");
        layers("to 9 0 1 5;");
        layers("to 9 0 1 5;to 0 0 0 5;");
        layers("to 0 0 -1 5;to 9 0 -1 5;to 9 0 0 5;to 0 0 0 5;", new int[] {-1, 1, 9}, new int[] {0, 1, 9});
        layers("to 9 0 0 5;by 0 0 1 5;by 7 0 0 5;by 0 0 -1 5;by 0 5 0 5;by 1 1 0 5;by 0 0 1 5;by -1 -1 0 5;",
            new int[] {0, 3, 15}, new int[] {1, 2, 8});
        // a layer of each block that there may be
        StringBuilder steps = new StringBuilder("mark a;");
        steps.append(Desk.repeat("by 1 0 0 5;by 0 0 1 5;", 5)).append("again a 3;");
        PathRide ride = Desk.riding(steps.toString());
        Desk.due("layers", ride.layer(-1, 0), 20);
        Desk.due("layer 19 0", ride.layer(19, 0), 19);
        Desk.due("layer 20 0", ride.layer(20, 0), Desk.MIN);
    }

    // ---- promise 29 ----

    private static void meetsOfOthers() {
        Desk.promise(29, "NONE for others; (-2: there are none)");
        for (int what : new int[] {-1, -2, 3, 4, Integer.MAX_VALUE, Integer.MIN_VALUE}) {
            Twins.refusedEverywhere("meets " + what, r -> r.meets(what), -1);
        }
        meets("of a new desk", new PathRide(), 0, -2, -2);
        meets("of one on its way", Twins.going(), 0, -2, -2);
    }

    private static void meets(String what, PathRide ride, int... due) {
        for (int i = 0; i < 3; i++) {
            Desk.due("meets " + i + " " + what, ride.meets(i), due[i]);
        }
    }

    /** Whether the block from 0 0 to 10 4 meets the one between two other places, to which it goes above. */
    private static void two(boolean meet, int ax, int ay, int bx, int by) {
        String from = "to " + ax + " " + ay + " 9 5;to " + ax + " " + ay + " 0 5;";
        String text = "to 10 4 0 5;to 10 4 9 5;" + from + "to " + bx + " " + by + " 0 5;";
        PathRide ride = Faults.right(text, 5);
        meets("of " + text, ride, meet ? 1 : 0, meet ? 0 : -2, meet ? 4 : -2);
    }

    private static void meetsAtAnEnd() {
        Desk.promise(29, "any place in X, Y is between the ends of both (or is an end)");
        // over it, at a place with whole numbers and at one without
        two(true, 5, 0, 5, 9);
        two(true, 4, 9, 4, -9);
        // an end of the one on the other, one step short of it, one step over it
        two(true, 5, 9, 5, 2);
        two(false, 5, 9, 5, 3);
        two(true, 5, 9, 5, 1);
        two(true, 5, -9, 5, 2);
        two(false, 5, -9, 5, 1);
        two(true, 5, -9, 5, 3);
        // both at an end
        two(true, 0, 9, 0, 0);
        two(false, 0, 9, 0, 1);
        two(true, 0, 9, 0, -1);
        two(false, -1, 9, -1, -9);
        two(false, 11, 9, 11, -9);
        two(true, -9, 4, 10, 0);
        // along the same line: at an end, over it, one step away
        two(true, -10, -4, 0, 0);
        two(false, -10, -4, -5, -2);
        two(true, -10, -4, 5, 2);
        two(true, 15, 6, 5, 2);
        two(false, 20, 8, 15, 6);
        two(true, -5, -2, 15, 6);
        two(true, 5, 2, 0, 0);
        // beside it, by as little as may be: 5 * 1 less 2 * 2 is 1, 5 * 1 less 2 * 3 is -1
        meets("to the left of 5 2", Desk.riding("to 5 2 0 5;to 5 9 0 5;to 2 9 0 5;to 2 1 0 5;"), 0, -2, -2);
        meets("to the right of 5 2", Desk.riding("to 5 2 0 5;to 5 -9 0 5;to 3 -9 0 5;to 3 1 0 5;"), 0, -2, -2);
        meets("over 5 2 from the left", Desk.riding("to 5 2 0 5;to 5 9 0 5;to 2 9 0 5;to 2 0 0 5;"), 1, 0, 3);
        meets("over 5 2 from the right", Desk.riding("to 5 2 0 5;to 5 -9 0 5;to 3 -9 0 5;to 3 2 0 5;"), 1, 0, 3);
        two(false, 0, 1, 10, 5);
        two(false, 0, -1, 10, 3);
        // its box is met, the block itself is not
        two(false, 0, 1, 1, 4);
        two(false, 9, 0, 10, 3);
    }

    private static void meetsAlongALine() {
        Desk.promise(29, "any place in X, Y is between the ends of both (or is an end)");
        int[][] rows = {{10, 20, 1}, {11, 20, 0}, {9, 20, 1}, {20, 10, 1}, {20, 11, 0}, {-5, 0, 1}, {-5, -1, 0}, {0, -5, 1},
            {-1, -5, 0}, {-5, 1, 1}, {3, 7, 1}, {7, 3, 1}, {-5, 15, 1}, {15, -5, 1}, {0, 10, 1}, {10, 0, 1}};
        for (int[] row : rows) {
            line("along X", "to 10 0 0 5;", row[0] + " 0", row[1] + " 0", row[2]);
            line("along Y", "to 0 10 0 5;", "0 " + row[0], "0 " + row[1], row[2]);
            line("along X, downwards", "to -10 0 0 5;", -row[0] + " 0", -row[1] + " 0", row[2]);
            line("along Y, downwards", "to 0 -10 0 5;", "0 " + -row[0], "0 " + -row[1], row[2]);
            // one beside it
            line("beside X", "to 10 0 0 5;", row[0] + " 1", row[1] + " 1", 0);
            line("beside Y", "to 0 10 0 5;", "-1 " + row[0], "-1 " + row[1], 0);
        }
    }

    /** Whether the first block meets the last one, to which it goes above, where nothing else is. */
    private static void line(String what, String first, String from, String to, int meet) {
        String text = first + "to 50 50 9 5;to " + from + " 8 5;to " + from + " 0 5;to " + to + " 0 5;";
        PathRide ride = Desk.riding(text);
        int last = ride.count(0) - 1;
        meets(what + ": " + text, ride, meet, meet == 1 ? 0 : -2, meet == 1 ? last : -2);
    }

    private static void meetsNotRightBehind() {
        Desk.promise(29, "not one right behind the other");
        meets("at a corner", Desk.riding("to 9 0 0 5;to 9 9 0 5;"), 0, -2, -2);
        meets("there and back", Desk.riding("to 9 0 0 5;to 0 0 0 5;"), 0, -2, -2);
        meets("there, back and there", Desk.riding("to 9 0 0 5;to 0 0 0 5;to 9 0 0 5;"), 1, 0, 2);
        meets("three in a line", Desk.riding("to 9 0 0 5;to 18 0 0 5;to 27 0 0 5;"), 0, -2, -2);
        meets("round a triangle", Desk.riding("to 9 0 0 5;to 9 9 0 5;to 0 0 0 5;"), 1, 0, 2);
        meets("nearly round", Desk.riding("to 9 0 0 5;to 9 9 0 5;to 0 1 0 5;"), 0, -2, -2);
        meets("over the first one", Desk.riding("to 9 0 0 5;to 9 9 0 5;to 0 -1 0 5;"), 1, 0, 2);
    }

    private static void meetsOfOneLayer() {
        Desk.promise(29, "if they are of one LAYER");
        String over = "to 10 0 0 5;to 10 0 9 5;to 5 -5 9 5;";
        meets("a layer above", Desk.riding(over + "to 5 5 9 5;"), 0, -2, -2);
        meets("from above through it", Desk.riding("to 10 0 0 5;to 10 0 9 5;to 0 0 -9 5;"), 0, -2, -2);
        meets("down to it", Desk.riding("to 10 0 0 5;to 10 0 9 5;to 5 0 9 5;to 5 0 0 5;"), 0, -2, -2);
        meets("down and over it", Desk.riding(over + "to 5 -5 0 5;to 5 5 0 5;"), 1, 0, 4);
        meets("up and down the same way", Desk.riding("to 0 0 9 5;to 5 5 9 5;to 5 5 0 5;to 0 0 0 5;to 0 0 9 5;"), 0, -2, -2);
        meets("in a layer below 0", Desk.riding("to 0 0 -9 5;to 9 0 -9 5;to 9 9 -9 5;to 5 -5 -9 5;"), 1, 1, 3);
    }

    private static void meetsFirstTwo() {
        Desk.promise(29, "0: how many twos, 1: the lesser of the first two (by it, then by the other one), 2: the other one");
        meets("of the square", Desk.riding(SQUARE), 3, 0, 3);
        // 0 and 4 at an end, 0 and 5, 1 and 3, 1 and 4
        meets("by the lesser one", Desk.riding("to 100 0 0 5;to 100 100 0 5;to 50 50 0 5;to 150 50 0 5;to 50 -50 0 5;to 50 20 0 5;"),
            4, 0, 4);
        // 1 and 3 meet, 0 and 5 as well: the lesser one counts, not which comes first along the way
        meets("by the lesser one", Desk.riding("to 50 0 0 5;to 100 0 0 5;to 100 50 0 5;to 70 -50 0 5;to 30 -50 0 5;to 30 50 0 5;"),
            2, 0, 5);
        meets("of all in a line", Desk.riding("mark a;to 9 0 0 5;to 0 0 0 5;again a 3;"), 21, 0, 2);
        PathRide far = Desk.riding("to 100000 0 0 5;to 99999 100000 0 5;to -99999 -100000 0 5;");
        meets("as far as may be, at 0 0", far, 1, 0, 2);
        far = Desk.riding("to 100000 0 0 5;to 99999 100000 0 5;to -100000 -100000 0 5;");
        meets("as far as may be, a half ahead of 0 0", far, 0, -2, -2);
    }

    // ---- promise 30 ----

    private static void boxWithoutThese() {
        Desk.promise(30, "Integer.MIN_VALUE without these (or SPOTS)");
        for (int n : new int[] {-1, -2, 3, 4, Integer.MAX_VALUE, Integer.MIN_VALUE}) {
            for (int side = 0; side <= 1; side++) {
                int asked = side;
                Twins.refusedEverywhere("box " + n + " " + side, r -> r.box(n, asked), Desk.MIN);
            }
        }
        for (int side : new int[] {-1, -2, 2, 3, Integer.MAX_VALUE, Integer.MIN_VALUE}) {
            for (int axis = 0; axis <= 2; axis++) {
                int asked = axis;
                Twins.refusedEverywhere("box " + axis + " " + side, r -> r.box(asked, side), Desk.MIN);
            }
        }
        for (int axis = 0; axis <= 2; axis++) {
            for (int side = 0; side <= 1; side++) {
                int of = axis;
                int asked = side;
                Twins.refused("box of a new desk", Twins::fresh, r -> r.box(of, asked), Desk.MIN);
                Desk.due("box without blocks", Desk.riding("by 0 0 0 5;").box(axis, side), Desk.MIN);
            }
        }
    }

    private static void boxOfAllSpots() {
        Desk.promise(30, "The least (side 0), the greatest (1) of an axis, of all SPOTS");
        int[][] due = {{-3, 10}, {-5, 20}, {0, 7}};
        int[][] below = {{-9, 0}, {-8, 0}, {-7, 0}};
        int[][] far = {{-100000, 100000}, {0, 100000}, {-100000, 0}};
        for (int axis = 0; axis <= 2; axis++) {
            for (int side = 0; side <= 1; side++) {
                Desk.due("box " + axis + " " + side, Desk.riding("to 10 -5 7 5;to -3 20 6 5;").box(axis, side), due[axis][side]);
                // where the way begins is a spot, too
                Desk.due("box below 0", Desk.riding("to -9 -8 -7 5;").box(axis, side), below[axis][side]);
                Desk.due("box of all", Desk.riding("to 100000 0 0 5;to -100000 100000 -100000 5;").box(axis, side), far[axis][side]);
            }
        }
        Desk.due("box of the last spot", full().box(2, 1), 120);
    }

    // ---- promise 31 ----

    private static void nearWithoutThese() {
        Desk.promise(31, "NONE without these (or SPOTS; places 100000 either way at most)");
        for (int what : new int[] {-1, -2, 2, 3, Integer.MAX_VALUE, Integer.MIN_VALUE}) {
            Twins.refusedEverywhere("near 1 2 3 " + what, r -> r.near(1, 2, 3, what), -1);
        }
        for (int what = 0; what <= 1; what++) {
            int asked = what;
            Twins.refused("near of a new desk", Twins::fresh, r -> r.near(0, 0, 0, asked), -1);
            Desk.due("near without blocks", Desk.riding("by 0 0 0 5;").near(0, 0, 0, what), -1);
            for (int n : new int[] {100001, -100001, 100002, Integer.MAX_VALUE, Integer.MIN_VALUE}) {
                Twins.refusedEverywhere("near " + n + " 0 0 " + what, r -> r.near(n, 0, 0, asked), -1);
                Twins.refusedEverywhere("near 0 " + n + " 0 " + what, r -> r.near(0, n, 0, asked), -1);
                Twins.refusedEverywhere("near 0 0 " + n + " " + what, r -> r.near(0, 0, n, asked), -1);
            }
            for (int n : new int[] {100000, -100000, 99999, -99999}) {
                int far = what == 0 ? 0 : Math.abs(n);
                PathRide ride = Desk.riding("to 0 0 1 5;to 0 0 -1 5;");
                Desk.due("near " + n + " 0 0 " + what, ride.near(n, 0, 0, what), far);
                Desk.due("near 0 " + n + " 0 " + what, ride.near(0, n, 0, what), far);
                Desk.due("near 0 0 " + n + " " + what, ride.near(0, 0, n, what), what == 0 ? n > 0 ? 1 : 2 : far - 1);
            }
        }
    }

    private static void nearFirstOfSeveral() {
        Desk.promise(31, "The SPOT nearest to a place, the first of several");
        PathRide ride = Desk.riding(SQUARE);
        int[][] near = {{50, 50, 0, 0}, {51, 50, 0, 1}, {50, 51, 0, 2}, {49, 51, 0, 3}, {51, 51, 0, 2}, {49, 50, 0, 0}, {50, 0, 50, 4},
            {49, 0, 50, 5}, {100, 0, 25, 1}, {100, 0, 26, 4}, {0, 0, 25, 0}, {0, 0, 24, 0}, {0, 0, 26, 5}};
        for (int[] row : near) {
            Desk.due("near " + row[0] + " " + row[1] + " " + row[2], ride.near(row[0], row[1], row[2], 0), row[3]);
        }
        // all are off by 50, downwards: the squares are 2600, 2600 and 2570
        ride = Desk.riding("to 100 0 0 5;to 1 -3 0 5;");
        Desk.due("near by less than a root tells", ride.near(50, 10, 0, 0), 2);
        Desk.due("how far", ride.near(50, 10, 0, 1), 50);
        Desk.due("near of the last spot", full().near(0, 0, 120, 0), 64);
        // the spots of another program are none any more
        ride = Desk.riding(SQUARE);
        Desk.tell(ride, "to 9 0 0 5;");
        Desk.due("near where one was", ride.near(100, 100, 0, 0), 1);
        Desk.due("how far", ride.near(100, 100, 0, 1), 135);
        Desk.due("comes where one was", ride.comes(100, 100, 0), 0);
        Desk.due("spot where one was", ride.spot(2, 0), Desk.MIN);
    }

    private static void nearHowFar() {
        Desk.promise(31, "1: how far (ROOT of the squares of how far in X, Y, Z, together)");
        PathRide ride = Desk.riding("to 0 0 100000 5;");
        int[][] far = {{0, 0, 0, 0}, {3, 4, 0, 5}, {4, 2, 2, 4}, {5, 1, 0, 5}, {2, -1, -2, 3}, {-1, 0, 0, 1}, {1, 1, 1, 1},
            {100000, 100000, 0, 141421}, {100000, -100000, -100000, 173205}, {0, 0, 100000, 0}, {0, 0, 99999, 1}};
        for (int[] row : far) {
            Desk.due("near " + row[0] + " " + row[1] + " " + row[2], ride.near(row[0], row[1], row[2], 1), row[3]);
        }
        ride = Desk.riding("tolerance 2000;to 100000 100000 100000 5;to 100000 100000 99999 5;");
        Desk.due("as far as may be", ride.near(-100000, -100000, -100000, 1), 173205);
    }

    // ---- promises 32 and 33 ----

    private static void keepWithoutThatNumber() {
        for (int k : new int[] {-1, -2, 2, 3, Integer.MAX_VALUE, Integer.MIN_VALUE}) {
            Desk.promise(32, "NONE, and nothing happens, without that number");
            Twins.refusedEverywhere("keep " + k, r -> r.keep(k), -1);
            Desk.promise(33, "NONE without that number");
            Twins.refusedEverywhere("common " + k, r -> r.common(k), -1);
        }
    }

    private static void keepLegs() {
        Desk.promise(32, "LEGS are KEPT: how many");
        for (int k = 0; k <= 1; k++) {
            Desk.due("keep of a new desk", new PathRide().keep(k), 0);
            Desk.due("keep of the square", Desk.riding(SQUARE).keep(k), 6);
            Desk.due("keep there and back", Desk.riding("to 9 0 0 5;to 0 0 0 5;to 9 0 0 5;").keep(k), 1);
            Desk.due("keep of a full way", full().keep(k), 64);
        }
        // it is no act
        PathRide ride = Twins.going();
        ride.keep(0);
        Desk.due("acts", ride.count(13), 11);
    }

    private static void commonNeverKept() {
        Desk.promise(33, "-2: none were ever KEPT there");
        for (int k = 0; k <= 1; k++) {
            PathRide ride = new PathRide();
            Desk.due("common " + k, ride.common(k), -2);
            Desk.tell(ride, SQUARE);
            Desk.due("common " + k, ride.common(k), -2);
            ride.keep(1 - k);
            Desk.due("common " + k + ", the other one kept", ride.common(k), -2);
            Desk.due("common " + (1 - k), ride.common(1 - k), 6);
            Desk.tell(ride, "");
            ride.keep(k);
            // none there are, but they were kept
            Desk.due("common " + k + ", none kept", ride.common(k), 0);
            Desk.due("common " + (1 - k), ride.common(1 - k), 0);
            Desk.tell(ride, SQUARE);
            Desk.due("common " + k + ", none kept", ride.common(k), 0);
            Desk.due("common " + (1 - k) + " stays", ride.common(1 - k), 6);
        }
        Twins.refused("common 0 of a new desk", Twins::fresh, r -> r.common(0), -2);
        Twins.refused("common 1", Twins::going, r -> r.common(1), -2);
    }

    private static void commonLegs() {
        Desk.promise(33, "How many LEGS are both here and KEPT (from where to where BLOCKS go, or back, that is one)");
        PathRide ride = Desk.riding(SQUARE);
        ride.keep(0);
        String[] texts = {"to 100 0 0 5;", "to 0 100 0 5;to 100 100 0 5;", "to 100 0 0 5;to 0 0 0 5;to 100 0 0 5;",
            "to 99 0 0 5;", "to 101 0 0 5;", "to 50 0 0 5;to 100 0 0 5;", "to 100 0 1 5;", "to 100 0 0 5;to 100 0 50 5;to 0 0 50 5;",
            "to 0 0 50 5;to 100 0 50 5;to 100 0 0 5;", "to -100 0 0 5;", ""};
        int[] common = {1, 2, 1, 0, 0, 0, 0, 3, 2, 0, 0};
        for (int i = 0; i < texts.length; i++) {
            Desk.due("program", Desk.tell(ride, texts[i]) >= 0, true);
            Desk.due("common 0 of " + texts[i], ride.common(0), common[i]);
        }
        // kept anew, the ones before are not kept any more
        Desk.tell(ride, "to 100 0 0 5;");
        Desk.due("keep", ride.keep(0), 1);
        Desk.tell(ride, SQUARE);
        Desk.due("common 0", ride.common(0), 1);
        // all of them
        ride = full();
        ride.keep(1);
        Desk.due("common 1 of a full way", ride.common(1), 64);
    }

    // ---- promise 36 ----

    private static void countOfOthers() {
        Desk.promise(36, "NONE for others");
        for (int what : new int[] {-1, -2, 16, 17, Integer.MAX_VALUE, Integer.MIN_VALUE}) {
            Twins.refusedEverywhere("count " + what, r -> r.count(what), -1);
        }
        Desk.promise(36, "What 0: BLOCKS, .. 15: TICKS that were (UNDONE ones not)");
        PathRide ride = Twins.held();
        int[] counts = {3, 3, 1, 790, 680, 8, -2, 1, 80, 1, 10, 10, 50, 12, 11, 9};
        for (int what = 0; what < counts.length; what++) {
            Desk.due("count " + what, ride.count(what), counts[what]);
        }
        ride.undo();
        ride.undo();
        Desk.due("count 13, two undone", ride.count(13), 10);
        Desk.due("count 15, one tick undone", ride.count(15), 8);
        ride.ticks(1);
        Desk.due("count 15", ride.count(15), 9);
        Desk.promise(36, "7: the BLOCK of s (NONE without BLOCKS), 14: bytes of the TAPE");
        Desk.due("count 7", new PathRide().count(7), -1);
        Desk.due("count 7", Desk.riding("to 1 0 0 5;").count(7), 0);
        Desk.due("count 7", full().count(7), 0);
        PathRide done = Twins.done();
        Desk.due("count 7 at the end", done.count(7), 2);
        Desk.due("count 14", done.count(14), 11);
        done.program();
        Desk.due("count 14 behind a program", done.count(14), 0);
    }
}
