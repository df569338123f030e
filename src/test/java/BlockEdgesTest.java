/** The edges of promises 5, 6 and 27, with Term II: blocks, their limits and what binds them, corners, the reach. */
public final class BlockEdgesTest {
    private static final String FAST = "axes 5000 5000 5000 500 500 500;";

    public static void main(String[] args) {
        blockWithoutThese();
        whatOfABlock();
        ends();
        lengths();
        speedsAndPushes();
        limitsByFeed();
        limitsBySpeed();
        limitsByGiven();
        passes();
        movesOfBlocks();
        cornerWithoutThese();
        sharps();
        cuts();
        cornerLimits();
        reach();
        bindsWithoutThatBlock();
        axesThatBind();
        Desk.finish("BlockEdgesTest");
    }

    private static PathRide one(String settings, String move) {
        return Faults.right(settings + move, 1);
    }

    // ---- promise 5 ----

    private static void blockWithoutThese() {
        Desk.promise(5, "NONE without these");
        for (int what = -1; what <= 10; what++) {
            int asked = what;
            Twins.refused("block 0 " + what + " of a new desk", Twins::fresh, r -> r.block(0, asked), -1);
            Twins.refusedEverywhere("block -1 " + what, r -> r.block(-1, asked), -1);
            Twins.refusedEverywhere("block 3 " + what, r -> r.block(3, asked), -1);
        }
        for (int what : new int[] {-1, 10, Integer.MAX_VALUE, Integer.MIN_VALUE}) {
            for (int block : new int[] {0, 1, 2}) {
                Twins.refusedEverywhere("block " + block + " " + what, r -> r.block(block, what), -1);
            }
        }
        Twins.refusedEverywhere("block of the greatest", r -> r.block(Integer.MAX_VALUE, 0), -1);
        Twins.refusedEverywhere("block of the least", r -> r.block(Integer.MIN_VALUE, 0), -1);
        PathRide most = Faults.right("tolerance 0;turn 0 1000 4 50 700;turn 0 2000 4 70 900;", 64);
        Desk.due("block 62 4", most.block(62, 4), 900);
        Desk.due("block 63 4", most.block(63, 4), 900);
        Desk.due("block 64 4", most.block(64, 4), -1);
        Desk.due("block 63 8", most.block(63, 8), 10);
        Desk.due("block 64 8", most.block(64, 8), -1);
        Desk.due("block 31 4", most.block(31, 4), 700);
        Desk.due("block 32 4", most.block(32, 4), 900);
    }

    private static void whatOfABlock() {
        Desk.promise(5, "Of a BLOCK what 0 to 2: X, Y, Z at its end, 3: LENGTH, .. 9: which of the MOVES it is of");
        PathRide ride = Twins.going();
        int[][] blocks = {
            {300, 0, 0, 300, 900, 2000, 100, 72, 0, 0},
            {300, 400, 0, 400, 500, 2000, 100, 40, 140, 1},
            {300, 400, 90, 90, 700, 2000, 100, 56, 70, 2}};
        for (int block = 0; block < 3; block++) {
            for (int what = 0; what <= 9; what++) {
                Desk.due("block " + block + " " + what, ride.block(block, what), blocks[block][what]);
            }
        }
    }

    private static void ends() {
        Desk.promise(5, "(an end may be below 0)");
        for (int n : new int[] {-1, -2, -99999, -100000, 1, 100000}) {
            for (int axis = 0; axis < 3; axis++) {
                String to = "to " + (axis == 0 ? n : 0) + " " + (axis == 1 ? n : 0) + " " + (axis == 2 ? n : 0) + " 5;";
                Desk.due("end of " + to, one("", to).block(0, axis), n);
            }
        }
    }

    private static void length(String move, int due) {
        Desk.due("length of " + move, one("", move).block(0, 3), due);
        Desk.due("all of " + move, one("", move).count(3), due);
    }

    private static void lengths() {
        Desk.promise(5, "LENGTH: ROOT of the sum of the squares of what it goes in X, Y, Z");
        length("to 1 0 0 5;", 1);
        length("to 1 1 1 5;", 1);
        length("to 4 2 2 5;", 4);
        length("to 3 4 0 5;", 5);
        length("to 5 1 0 5;", 5);
        length("to 2 2 1 5;", 3);
        length("to -2 2 0 5;", 2);
        length("to -1 -2 -2 5;", 3);
        length("to 60000 80000 0 5;", 100000);
        length("to 60000 80000 1 5;", 100000);
        length("to 60000 79999 0 5;", 99999);
        length("to 60000 79999 399 5;", 99999);
        length("to 60000 79999 400 5;", 100000);
        PathRide ride = Faults.right("to -100000 -100000 -100000 5;to 100000 100000 100000 5;", 2);
        Desk.due("the greatest length", ride.block(1, 3), 346410);
        Desk.due("the other one", ride.block(0, 3), 173205);
        Desk.promise(36, "ALL: all LENGTHS together");
        Desk.due("all", ride.count(3), 519615);
    }

    private static void rates(String axes, String to, int speed, int push) {
        PathRide ride = one("axes " + axes + ";", "to " + to + " 5;");
        Desk.due("speed of " + axes + ", to " + to, ride.block(0, 5), speed);
        Desk.due("push of " + axes + ", to " + to, ride.block(0, 6), push);
    }

    private static void speedsAndPushes() {
        Desk.promise(5, "SPEED is the least of speed * LENGTH / d (as if d were above 0), all axes, downwards; PUSH likewise");
        rates("100 200 300 10 20 30", "3 4 0", 166, 16);
        rates("100 200 300 10 20 30", "-3 -4 0", 166, 16);
        rates("100 200 300 10 20 30", "3 -4 0", 166, 16);
        rates("101 133 1 11 13 1", "3 4 0", 166, 16);
        rates("150 120 1 15 12 1", "3 4 0", 150, 15);
        rates("150 119 1 15 11 1", "3 4 0", 148, 13);
        // an axis in which it does not go bounds nothing
        rates("1 1 300 1 1 30", "0 0 -7", 300, 30);
        rates("1 200 1 1 20 1", "0 7 0", 200, 20);
        rates("100 1 1 10 1 1", "-7 0 0", 100, 10);
        // the length is 1, a step is 1: as much as the axis itself
        rates("5000 5000 5000 500 500 500", "1 1 1", 5000, 500);
        rates("1 1 1 1 1 1", "1 1 1", 1, 1);
        rates("5000 5000 5000 500 500 500", "57735 57735 57735", 8660, 866);
        // each by an axis of its own
        rates("50 5000 5000 500 5 500", "10 10 0", 70, 7);
    }

    private static void limit(String settings, int feed, int limit, int binds) {
        PathRide ride = one(settings, "to 100 0 0 " + feed + ";");
        Desk.due(settings + " feed " + feed + ": limit", ride.block(0, 7), limit);
        Desk.due(settings + " feed " + feed + ": binds", ride.binds(0), binds);
    }

    private static void limitsByFeed() {
        Desk.promise(27, "LIMIT by J, 1 at least, 100 at most (5); 4, if 1 at least or 100 at most made it so");
        limit(FAST, 1, 1, 4);
        limit(FAST, 9, 1, 4);
        limit(FAST, 10, 1, 3);
        limit(FAST, 19, 1, 3);
        limit(FAST, 20, 2, 3);
        limit(FAST, 990, 99, 3);
        limit(FAST, 999, 99, 3);
        limit(FAST, 1000, 100, 3);
        limit(FAST, 1009, 100, 3);
        limit(FAST, 1010, 100, 4);
        limit(FAST, 5000, 100, 4);
        limit(FAST + "jerk 1;", 1, 1, 3);
        limit(FAST + "jerk 1;", 2, 2, 3);
        limit(FAST + "jerk 1;", 100, 100, 3);
        limit(FAST + "jerk 1;", 101, 100, 4);
        limit(FAST + "jerk 50;", 49, 1, 4);
        limit(FAST + "jerk 50;", 50, 1, 3);
        limit(FAST + "jerk 50;", 4999, 99, 3);
        limit(FAST + "jerk 50;", 5000, 100, 3);
    }

    private static void limitsBySpeed() {
        Desk.promise(27, "the lesser one of FEED and SPEED (5); 3, if FEED * GIVEN / 100 is SPEED at most; else the axis");
        limit("axes 99 1 1 9 9 9;", 98, 9, 3);
        limit("axes 99 1 1 9 9 9;", 99, 9, 3);
        limit("axes 99 1 1 9 9 9;", 100, 9, 0);
        limit("axes 99 1 1 9 9 9;", 5000, 9, 0);
        limit("axes 100 1 1 9 9 9;", 100, 10, 3);
        limit("axes 100 1 1 9 9 9;", 101, 10, 0);
        limit("axes 101 1 1 9 9 9;", 101, 10, 3);
        limit("axes 9 1 1 9 9 9;", 5000, 1, 4);
        limit("axes 9 1 1 9 9 9;", 9, 1, 4);
        limit("axes 10 1 1 9 9 9;", 11, 1, 0);
        limit("axes 1000 1 1 9 9 9;", 1000, 100, 3);
        limit("axes 1000 1 1 9 9 9;", 1001, 100, 0);
        limit("axes 1009 1 1 9 9 9;", 1010, 100, 0);
        limit("axes 1010 1 1 9 9 9;", 1010, 100, 4);
        limit("axes 1010 1 1 9 9 9;", 1011, 100, 4);
        limit("axes 1010 1 1 9 9 9;", 1009, 100, 3);
    }

    private static void given(int feed, int percent, int limit, int binds) {
        PathRide ride = one(FAST, "to 100 0 0 " + feed + ";");
        ride.give(percent);
        Desk.due("feed " + feed + ", given " + percent + ": limit", ride.block(0, 7), limit);
        Desk.due("feed " + feed + ", given " + percent + ": binds", ride.binds(0), binds);
        Desk.due("the feed stays", ride.block(0, 4), feed);
    }

    private static void limitsByGiven() {
        Desk.promise(5, "LIMIT: FEED * GIVEN / 100, all downwards");
        given(15, 199, 2, 3);
        given(15, 200, 3, 3);
        given(150, 33, 4, 3);
        given(150, 34, 5, 3);
        given(999, 1, 1, 4);
        given(1000, 1, 1, 3);
        given(1999, 1, 1, 3);
        given(2000, 1, 2, 3);
        given(505, 200, 100, 4);
        given(504, 200, 100, 3);
        given(499, 200, 99, 3);
        given(5, 199, 1, 4);
        given(5, 200, 1, 3);
        given(5000, 200, 100, 4);
        PathRide ride = one("axes 495 1 1 9 9 9;", "to 100 0 0 450;");
        int[][] binds = {{109, 3}, {110, 3}, {111, 0}};
        for (int[] row : binds) {
            ride.give(row[0]);
            Desk.due("binds by given " + row[0], ride.binds(0), row[1]);
        }
        ride.undo();
        Desk.due("binds, undone", ride.binds(0), 3);
    }

    private static void passes(String text, int... due) {
        PathRide ride = Faults.right(text, due.length);
        for (int block = 0; block < due.length; block++) {
            Desk.due("passes " + block + " of " + text, ride.block(block, 8), due[block]);
        }
        ride.give(1);
        Desk.due("passes is not bounded by what is given", ride.block(due.length - 1, 8), due[due.length - 1]);
    }

    private static void passes() {
        Desk.promise(5, "PASSES: at the beginning and the end 0; no more than the ROOT of (square and 2 * PUSH * LENGTH)");
        passes("to 100 0 0 5;", 0);
        passes("to 10 0 0 5;to 110 0 0 5;", 0, 44);
        passes("to 100 0 0 5;to 110 0 0 5;", 0, 44);
        passes("to 10 0 0 5;to 20 0 0 5;to 30 0 0 5;", 0, 44, 44);
        passes("to 10 0 0 5;to 20 0 0 5;to 30 0 0 5;to 40 0 0 5;", 0, 44, 62, 44);
        // by just 48 * 48 and one more, and by 49 * 49 and one more
        passes("axes 9 9 9 1 1 1;to 1200 0 0 5;to 3000 0 0 5;", 0, 48);
        passes("axes 9 9 9 1 1 1;to 1201 0 0 5;to 3000 0 0 5;", 0, 49);
        passes("axes 9 9 9 1 1 1;to 9000 0 0 5;to 10200 0 0 5;", 0, 48);
        passes("axes 9 9 9 1 1 1;to 9000 0 0 5;to 10201 0 0 5;", 0, 49);
        passes("axes 9 9 9 8 1 1;to 1 0 0 5;to 9000 0 0 5;", 0, 4);
        Desk.promise(5, "PASSES: at each CORNER the CORNER'S LIMIT * J");
        passes("tolerance 0;to 1000 0 0 5;by 0 1000 0 5;", 0, 10);
        passes("jerk 7;tolerance 0;to 1000 0 0 5;by 0 1000 0 5;", 0, 7);
        passes("jerk 1;to 100000 0 0 5;to 0 0 0 5;", 0, 100);
        // 100 at most, also where it goes straight on
        passes("jerk 1;to 5000 0 0 5;to 10000 0 0 5;", 0, 100);
        passes("jerk 10;to 5000 0 0 5;to 10000 0 0 5;", 0, 1000);
        passes("jerk 10;to 4999 0 0 5;to 10000 0 0 5;", 0, 999);
        // back from a corner, and forth from one
        passes("tolerance 0;to 1000 0 0 5;by 18 0 0 5;by 0 1000 0 5;", 0, 60, 10);
        passes("tolerance 0;to 1000 0 0 5;by 0 18 0 5;by 0 1000 0 5;", 0, 10, 60);
        // another push ahead of it and behind it
        passes("axes 9 9 9 50 8 9;jerk 1;tolerance 2000;to 100 0 0 5;by 0 100 0 5;", 0, 23);
    }

    private static void movesOfBlocks() {
        Desk.promise(5, "9: which of the MOVES it is of (from 0 on, as they came)");
        PathRide ride = Faults.right("by 0 0 0 5;mark a;by 1 0 0 5;by 0 0 0 5;turn 0 9 2 0 5;again a 1;", 6);
        int[] of = {1, 3, 3, 4, 6, 6};
        for (int block = 0; block < of.length; block++) {
            Desk.due("move of " + block, ride.block(block, 9), of[block]);
        }
        ride = Faults.right("mark a;" + Desk.repeat("by 1 0 0 1;", 10) + "again a 3;", 40);
        Desk.due("the last move", ride.block(39, 9), 39);
    }

    // ---- promise 6 ----

    private static void cornerWithoutThese() {
        Desk.promise(6, "NONE without these (behind the last one there is none)");
        for (int what = -1; what <= 3; what++) {
            int asked = what;
            Twins.refused("corner 0 " + what + " of a new desk", Twins::fresh, r -> r.corner(0, asked), -1);
            for (int block : new int[] {-1, 2, 3, Integer.MAX_VALUE, Integer.MIN_VALUE}) {
                Twins.refusedEverywhere("corner " + block + " " + what, r -> r.corner(block, asked), -1);
            }
            Desk.due("corner of one block", one("", "to 5 5 5 5;").corner(0, what), -1);
        }
        for (int what : new int[] {-1, 3, Integer.MAX_VALUE, Integer.MIN_VALUE}) {
            for (int block : new int[] {0, 1}) {
                Twins.refusedEverywhere("corner " + block + " " + what, r -> r.corner(block, what), -1);
            }
        }
        PathRide ride = Twins.going();
        int[][] corners = {{46340, 141, 14}, {46340, 45, 7}};
        for (int block = 0; block < 2; block++) {
            for (int what = 0; what <= 2; what++) {
                Desk.due("corner " + block + " " + what, ride.corner(block, what), corners[block][what]);
            }
        }
        PathRide most = Faults.right("tolerance 0;turn 0 1000 4 50 700;turn 0 2000 4 70 900;", 64);
        Desk.due("corner 62 1", most.corner(62, 1), 0);
        Desk.due("corner 62 2", most.corner(62, 2), 1);
        Desk.due("corner 63 0", most.corner(63, 0), -1);
        Desk.due("corner 64 0", most.corner(64, 0), -1);
    }

    private static void corner(String text, int sharp, int cut, int limit) {
        PathRide ride = Faults.right(text, 2);
        Desk.due("sharp of " + text, ride.corner(0, 0), sharp);
        Desk.due("cut of " + text, ride.corner(0, 1), cut);
        Desk.due("limit of " + text, ride.corner(0, 2), limit);
    }

    private static void sharps() {
        Desk.promise(6, "CUT: 0 if SHARP is 0; CORNER'S LIMIT: 100 if SHARP is 0");
        corner("to 100 0 0 5;by 50 0 0 5;", 0, 0, 100);
        corner("jerk 50;to 3 4 0 5;by 6 8 0 5;", 0, 0, 100);
        corner("tolerance 2000;to -1 0 0 5;by -1 0 0 5;", 0, 0, 100);
        // a bend of 1 is one already: 50000 * 50000 and 4 is no longer than 50000, 2 * 32768 / 50000 is 1
        corner("jerk 1;tolerance 2000;to 50000 0 0 5;by 50000 2 0 5;", 1, 25000, 100);
        corner("jerk 1;tolerance 2000;to 50000 0 0 5;by 50000 1 0 5;", 0, 0, 100);
        corner("jerk 1;tolerance 0;to 50000 0 0 5;by 50000 -2 0 5;", 1, 0, 1);
        Desk.promise(6, "BEND (each towards 0); SHARP: ROOT of the sum of the squares of BENDS");
        corner("tolerance 0;to 0 -10 0 5;by 10 0 0 5;", 46340, 0, 1);
        corner("tolerance 0;to 0 0 10 5;by 0 0 -10 5;", 65536, 0, 1);
        // 3 * 32768 / 5 is 19660, 4 * 32768 / 5 is 26214, with either sign
        corner("tolerance 0;to 3 4 0 5;by -3 -4 0 5;", 65534, 0, 1);
        corner("tolerance 0;to 3 4 0 5;by 4 3 0 5;", 9268, 0, 1);
        corner("tolerance 0;to -3 -4 0 5;by -4 -3 0 5;", 9268, 0, 1);
        corner("tolerance 0;to 3 0 4 5;by 0 5 0 5;", 46340, 0, 1);
        // lengths of 1: each of three steps is a whole one
        corner("tolerance 0;to 1 1 1 5;by -1 -1 -1 5;", 113511, 0, 1);
    }

    private static void cuts() {
        Desk.promise(6, "CUT: the least of 4 * tolerance * 32768 / SHARP and half of either LENGTH (downwards)");
        // back again: twice the tolerance; the root of the cut * 100, by 10
        corner("tolerance 24;to 100 0 0 5;to 0 0 0 5;", 65536, 48, 6);
        corner("tolerance 25;to 100 0 0 5;to 0 0 0 5;", 65536, 50, 7);
        corner("tolerance 26;to 100 0 0 5;to 0 0 0 5;", 65536, 50, 7);
        corner("tolerance 2000;to 100 0 0 5;to 0 0 0 5;", 65536, 50, 7);
        corner("tolerance 2000;to 101 0 0 5;to 0 0 0 5;", 65536, 50, 7);
        corner("tolerance 2000;to 102 0 0 5;to 0 0 0 5;", 65536, 51, 7);
        corner("tolerance 2000;to 200 0 0 5;to 101 0 0 5;", 65536, 49, 7);
        corner("tolerance 2000;to 99 0 0 5;to -101 0 0 5;", 65536, 49, 7);
        corner("tolerance 2000;to 1 0 0 5;to 0 0 0 5;", 65536, 0, 1);
        corner("tolerance 2000;to 2 0 0 5;to 0 0 0 5;", 65536, 1, 1);
        corner("tolerance 2000;to 3 0 0 5;to -100 0 0 5;", 65536, 1, 1);
        // a right angle: 4 * 10 * 32768 / 46340 is 28.2
        corner("tolerance 10;to 100 0 0 5;to 100 100 0 5;", 46340, 28, 6);
        corner("tolerance 10;to 57 0 0 5;to 57 100 0 5;", 46340, 28, 6);
        corner("tolerance 10;to 55 0 0 5;to 55 100 0 5;", 46340, 27, 6);
        corner("tolerance 1;to 100 0 0 5;to 100 100 0 5;", 46340, 2, 1);
        corner("tolerance 0;to 100 0 0 5;to 100 100 0 5;", 46340, 0, 1);
    }

    private static void cornerLimits() {
        Desk.promise(6, "CORNER'S LIMIT: the ROOT, by J, 1 at least");
        // back again: the root of the cut * 100, by 50
        String far = "to 5000 0 0 5;to 0 0 0 5;";
        corner("jerk 50;tolerance 12;" + far, 65536, 24, 1);
        corner("jerk 50;tolerance 13;" + far, 65536, 26, 1);
        corner("jerk 50;tolerance 49;" + far, 65536, 98, 1);
        corner("jerk 50;tolerance 50;" + far, 65536, 100, 2);
        corner("jerk 50;tolerance 0;" + far, 65536, 0, 1);
        Desk.promise(6, "CORNER'S LIMIT: the ROOT, by J, 100 at most");
        // the root of the cut * 100, by 1
        corner("jerk 1;tolerance 2000;to 198 0 0 5;to 0 0 0 5;", 65536, 99, 99);
        corner("jerk 1;tolerance 2000;to 200 0 0 5;to 0 0 0 5;", 65536, 100, 100);
        corner("jerk 1;tolerance 2000;to 204 0 0 5;to 0 0 0 5;", 65536, 102, 100);
        corner("jerk 1;tolerance 2000;to 206 0 0 5;to 0 0 0 5;", 65536, 103, 100);
        corner("jerk 1;tolerance 2000;to 100000 0 0 5;to 0 0 0 5;", 65536, 4000, 100);
        Desk.promise(6, "(the lesser PUSH of both)");
        String pushes = "axes 9 9 9 50 8 9;jerk 1;tolerance 2000;";
        corner(pushes + "to 100 0 0 5;by 0 100 0 5;", 46340, 50, 23);
        corner(pushes + "to 0 100 0 5;by 100 0 0 5;", 46340, 50, 23);
        corner(pushes + "to 100 0 0 5;by -100 0 0 5;", 65536, 50, 50);
        Desk.promise(6, "what 2: its LIMIT (by the CUT, not by what is given)");
        PathRide ride = Faults.right("tolerance 25;to 100 0 0 5;to 0 0 0 5;", 2);
        ride.give(1);
        Desk.due("limit", ride.corner(0, 2), 7);
    }

    private static void reachOf(String settings, int due) {
        Desk.due("reach of " + settings, one(settings, "to 9 0 0 5;").count(10), due);
    }

    private static void reach() {
        Desk.promise(36, "REACH: the least of PUSH / J, all BLOCKS, 1 at least, 12 at most (12 without BLOCKS)");
        int[][] byTen = {{1, 1}, {9, 1}, {10, 1}, {19, 1}, {20, 2}, {29, 2}, {110, 11}, {119, 11}, {120, 12}, {129, 12}, {130, 12}, {500, 12}};
        for (int[] row : byTen) {
            reachOf("axes 9 9 9 " + row[0] + " 500 500;", row[1]);
        }
        int[][] byOne = {{1, 1}, {2, 2}, {11, 11}, {12, 12}, {13, 12}};
        for (int[] row : byOne) {
            reachOf("axes 9 9 9 " + row[0] + " 500 500;jerk 1;", row[1]);
        }
        int[][] byFifty = {{49, 1}, {50, 1}, {99, 1}, {100, 2}, {499, 9}, {500, 10}};
        for (int[] row : byFifty) {
            reachOf("axes 9 9 9 " + row[0] + " 500 500;jerk 50;", row[1]);
        }
        String three = "axes 9 9 9 70 50 90;";
        Desk.due("of three blocks", Faults.right(three + "to 9 0 0 5;by 0 9 0 5;by 0 0 9 5;", 3).count(10), 5);
        Desk.due("of the first one", Faults.right(three + "to 0 9 0 5;by 9 0 0 5;by 0 0 9 5;", 3).count(10), 5);
        Desk.due("of the last one", Faults.right(three + "to 9 0 0 5;by 0 0 9 5;by 0 9 0 5;", 3).count(10), 5);
        Desk.due("of two others", Faults.right(three + "to 9 0 0 5;by 0 0 9 5;", 2).count(10), 7);
        Desk.due("without blocks", Faults.right("jerk 50;axes 9 9 9 1 1 1;by 0 0 0 5;", 0).count(10), 12);
    }

    // ---- promise 27 ----

    private static void bindsWithoutThatBlock() {
        Desk.promise(27, "NONE without that BLOCK");
        Twins.refused("binds 0 of a new desk", Twins::fresh, r -> r.binds(0), -1);
        for (int block : new int[] {-1, -2, 3, 4, 64, Integer.MAX_VALUE, Integer.MIN_VALUE}) {
            Twins.refusedEverywhere("binds " + block, r -> r.binds(block), -1);
        }
        Desk.due("binds 0", Twins.going().binds(0), 3);
        Desk.due("binds 2", Twins.going().binds(2), 3);
        PathRide most = Faults.right("tolerance 0;turn 0 1000 4 50 5;turn 0 2000 4 70 900;", 64);
        Desk.due("binds 31", most.binds(31), 4);
        Desk.due("binds 32", most.binds(32), 3);
        Desk.due("binds 63", most.binds(63), 3);
        Desk.due("binds 64", most.binds(64), -1);
    }

    private static void binds(String speeds, String to, int due) {
        PathRide ride = one("axes " + speeds + " 9 9 9;", "to " + to + " 5000;");
        Desk.due("binds of " + speeds + ", to " + to, ride.binds(0), due);
    }

    private static void axesThatBind() {
        Desk.promise(27, "else the least axis that gives SPEED");
        binds("500 500 500", "9 0 0", 0);
        binds("500 500 500", "0 -9 0", 1);
        binds("500 500 500", "0 0 9", 2);
        binds("500 500 500", "9 9 9", 0);
        binds("500 500 500", "9 -9 0", 0);
        binds("500 500 500", "0 9 -9", 1);
        binds("500 500 500", "9 0 9", 0);
        binds("500 499 500", "9 9 9", 1);
        binds("500 500 499", "9 9 9", 2);
        binds("500 499 499", "9 9 9", 1);
        // steps of 1
        binds("500 500 500", "1 0 0", 0);
        binds("500 500 500", "-1 0 0", 0);
        binds("500 500 500", "0 1 0", 1);
        binds("500 500 500", "0 -1 0", 1);
        binds("500 500 500", "0 0 1", 2);
        binds("500 500 500", "1 1 1", 0);
        // one in which it does not go gives nothing
        binds("20 500 500", "0 9 9", 1);
        binds("20 30 500", "0 0 9", 2);
        // 100 * 5 / 3 and 133 * 5 / 4 are 166 both, downwards; by 134 it is 167
        binds("100 133 9", "3 4 0", 0);
        binds("100 134 9", "3 4 0", 0);
        binds("101 133 9", "3 4 0", 1);
        binds("101 134 9", "3 4 0", 1);
    }
}
