/** The edges of promises 12 and 13, with Term II: where it is, straight on and round corners. */
public final class PlaceEdgesTest {
    public static void main(String[] args) {
        axes();
        placesAlongTheWay();
        straightTowardsZero();
        blockOfS();
        roundACorner();
        cornerBegins();
        twoCorners();
        cutOfNothing();
        mirrored();
        farOff();
        whereIsThePlaceOfS();
        Desk.finish("PlaceEdgesTest");
    }

    private static void at(PathRide ride, int s, int x, int y, int z) {
        Desk.due("place " + s + " 0", ride.place(s, 0), x);
        Desk.due("place " + s + " 1", ride.place(s, 1), y);
        Desk.due("place " + s + " 2", ride.place(s, 2), z);
    }

    private static void axes() {
        for (int axis : new int[] {-1, -2, 3, 4, Integer.MAX_VALUE, Integer.MIN_VALUE}) {
            Desk.promise(12, "Integer.MIN_VALUE for others");
            Twins.refusedEverywhere("where " + axis, r -> r.where(axis), Desk.MIN);
            Desk.promise(13, "Integer.MIN_VALUE without these");
            Twins.refusedEverywhere("place 0 " + axis, r -> r.place(0, axis), Desk.MIN);
        }
        Desk.promise(12, "axis 0 to 2");
        PathRide ride = Faults.right("to 70 80 90 500;", 1);
        ride.ticks(60);
        Desk.due("where 0", ride.where(0), 70);
        Desk.due("where 1", ride.where(1), 80);
        Desk.due("where 2", ride.where(2), 90);
        Desk.promise(12, "(Without BLOCKS 0.)");
        for (int axis = 0; axis <= 2; axis++) {
            Desk.due("where " + axis, new PathRide().where(axis), 0);
            Desk.due("place 0 " + axis, new PathRide().place(0, axis), 0);
            Desk.due("where " + axis, Faults.right("by 0 0 0 5;", 0).where(axis), 0);
        }
    }

    private static void placesAlongTheWay() {
        Desk.promise(13, "(s 0 to ALL)");
        for (int axis = 0; axis <= 2; axis++) {
            int asked = axis;
            for (int s : new int[] {-1, -2, 791, 792, Integer.MAX_VALUE, Integer.MIN_VALUE}) {
                Twins.refusedEverywhere("place " + s + " " + axis, r -> r.place(s, asked), Desk.MIN);
            }
            Twins.refused("place 1 of a new desk", Twins::fresh, r -> r.place(1, asked), Desk.MIN);
            Twins.refused("place 11 of 10", () -> Desk.riding("to 9 0 0 5;to 10 0 0 5;"), r -> r.place(11, asked), Desk.MIN);
        }
        PathRide ride = Twins.going();
        Desk.due("all", ride.count(3), 790);
        at(ride, 0, 0, 0, 0);
        at(ride, 1, 1, 0, 0);
        at(ride, 789, 300, 400, 89);
        at(ride, 790, 300, 400, 90);
        ride = Faults.right("to 9 0 0 5;to 10 0 0 5;", 2);
        at(ride, 8, 8, 0, 0);
        at(ride, 9, 9, 0, 0);
        at(ride, 10, 10, 0, 0);
    }

    private static void straightTowardsZero() {
        Desk.promise(13, "the BLOCK'S beginning and what it goes * how far s is in it / its LENGTH, towards 0");
        // 10 long: X by a tenth of -10, Y of 3, Z of -2
        PathRide ride = Faults.right("to -10 3 -2 100;", 1);
        int[][] places = {{0, 0, 0, 0}, {1, -1, 0, 0}, {3, -3, 0, 0}, {4, -4, 1, 0}, {5, -5, 1, -1}, {6, -6, 1, -1},
            {7, -7, 2, -1}, {9, -9, 2, -1}, {10, -10, 3, -2}};
        for (int[] place : places) {
            at(ride, place[0], place[1], place[2], place[3]);
        }
        // longer than 1 long: 1, 1 and 1 are 1 long
        at(Faults.right("to -1 -1 -1 5;", 1), 1, -1, -1, -1);
        // what it goes is towards 0, not the place: 5 less a half is 5
        ride = Faults.right("tolerance 0;to 5 0 0 5;to 4 2 0 5;", 2);
        Desk.due("length", ride.block(1, 3), 2);
        at(ride, 5, 5, 0, 0);
        at(ride, 6, 5, 1, 0);
        at(ride, 7, 4, 2, 0);
        ride = Faults.right("tolerance 0;to -5 0 0 5;to -4 2 0 5;", 2);
        at(ride, 6, -5, 1, 0);
    }

    private static void blockOfS() {
        Desk.promise(13, "The BLOCK of s: the first whose end is behind s (the last one, if it is at ALL)");
        PathRide ride = Faults.right("tolerance 0;to 3 4 0 5;by 0 0 7 5;by 0 -4 0 5;", 3);
        at(ride, 4, 2, 3, 0);
        at(ride, 5, 3, 4, 0);
        at(ride, 6, 3, 4, 1);
        at(ride, 11, 3, 4, 6);
        at(ride, 12, 3, 4, 7);
        at(ride, 13, 3, 3, 7);
        at(ride, 15, 3, 1, 7);
        at(ride, 16, 3, 0, 7);
    }

    private static void roundACorner() {
        Desk.promise(13, "for a CORNER (CUT above 0) of which it is no more than CUT ahead or behind");
        // the cut is 28: from 72 to 128
        PathRide ride = Faults.right("tolerance 10;to 100 0 0 500;to 100 100 0 500;", 2);
        Desk.due("cut", ride.corner(0, 1), 28);
        int[][] places = {
            {71, 71, 0}, {72, 72, 0},
            // (72 * 55 * 55 + 100 * 110 + 100) / 3136 is 72.9; straight on it would be 73
            {73, 72, 0},
            // the corner itself: (72 + 200 + 100) / 4, and 28 / 4
            {100, 93, 7},
            {127, 99, 27}, {128, 100, 28}, {129, 100, 29}, {199, 100, 99}, {200, 100, 100}};
        for (int[] place : places) {
            at(ride, place[0], place[1], place[2], 0);
        }
        // by no tolerance it is a corner
        ride = Faults.right("tolerance 0;to 100 0 0 500;to 100 100 0 500;", 2);
        at(ride, 99, 99, 0, 0);
        at(ride, 100, 100, 0, 0);
        at(ride, 101, 100, 1, 0);
        // the least cut there is: 1, from 1 to 3
        ride = Faults.right("tolerance 2000;to 2 0 0 5;by 0 2 0 5;", 2);
        Desk.due("cut", ride.corner(0, 1), 1);
        at(ride, 0, 0, 0, 0);
        at(ride, 1, 1, 0, 0);
        at(ride, 2, 1, 0, 0);
        at(ride, 3, 2, 1, 0);
        at(ride, 4, 2, 2, 0);
        // there and back again: it turns a half of the cut ahead of it
        ride = Faults.right("tolerance 25;to 0 0 100 5;to 0 0 0 5;", 2);
        at(ride, 50, 0, 0, 50);
        at(ride, 51, 0, 0, 50);
        at(ride, 100, 0, 0, 75);
        at(ride, 149, 0, 0, 50);
        at(ride, 150, 0, 0, 50);
        at(ride, 151, 0, 0, 49);
    }

    private static void cornerBegins() {
        Desk.promise(13, "t behind P (0 to 2 * CUT)");
        // 7 long by 7 and 3, the cut is 3. P: (7, 3) less (3, 1); straight on Y would be 3 * 4 / 7, which is 1
        PathRide ride = Faults.right("tolerance 2000;to 7 3 0 500;to 7 -20 0 500;", 2);
        Desk.due("cut", ride.corner(0, 1), 3);
        at(ride, 3, 3, 1, 0);
        at(ride, 4, 4, 2, 0);
        at(ride, 10, 7, 0, 0);
        at(ride, 11, 7, -1, 0);
        // the same with the first block the other way round
        ride = Faults.right("tolerance 2000;to -7 -3 0 500;to -7 20 0 500;", 2);
        at(ride, 3, -3, -1, 0);
        at(ride, 4, -4, -2, 0);
    }

    private static void twoCorners() {
        Desk.promise(13, "(of two such the first)");
        // 8 long by 5 and 7; both cuts are 4 and touch at 24: Q of the first is (22, 3), P of the other one (23, 4)
        PathRide ride = Faults.right("tolerance 2000;to 20 0 0 500;by 5 7 0 500;by 20 0 0 500;", 3);
        Desk.due("length", ride.block(1, 3), 8);
        Desk.due("cut 0", ride.corner(0, 1), 4);
        Desk.due("cut 1", ride.corner(1, 1), 4);
        at(ride, 24, 22, 3, 0);
        // (23 * 49 + 25 * 14 + 29) / 64, (4 * 49 + 7 * 14 + 7) / 64
        at(ride, 25, 23, 4, 0);
        at(ride, 28, 25, 6, 0);
        // one longer, by 5 and 8: between both cuts there is one place of the block itself
        ride = Faults.right("tolerance 2000;to 20 0 0 500;by 5 8 0 500;by 20 0 0 500;", 3);
        Desk.due("length", ride.block(1, 3), 9);
        at(ride, 24, 22, 3, 0);
        at(ride, 25, 23, 5, 0);
    }

    private static void cutOfNothing() {
        Desk.promise(13, "for a CORNER (CUT above 0)");
        // straight on there is no cut: at the corner it is at the corner
        PathRide ride = Faults.right("tolerance 2000;to 5 5 0 5;by 5 5 0 5;", 2);
        Desk.due("length", ride.block(0, 3), 7);
        Desk.due("cut", ride.corner(0, 1), 0);
        at(ride, 6, 4, 4, 0);
        at(ride, 7, 5, 5, 0);
        at(ride, 8, 5, 5, 0);
        // the block is too short for a cut
        ride = Faults.right("tolerance 2000;to 1 0 0 5;by 0 9 0 5;", 2);
        Desk.due("cut", ride.corner(0, 1), 0);
        at(ride, 0, 0, 0, 0);
        at(ride, 1, 1, 0, 0);
        at(ride, 2, 1, 1, 0);
    }

    /** All goes towards 0: the other way round it is everywhere at the same place, less. */
    private static void mirrored() {
        Desk.promise(13, "towards 0");
        String text = "tolerance 30;to 37 -11 5 5;by -20 41 -3 5;by 13 17 -7 5;by -9 -8 -21 5;";
        String mirror = "tolerance 30;to -37 11 -5 5;by 20 -41 3 5;by -13 -17 7 5;by 9 8 21 5;";
        for (int axis = 0; axis <= 2; axis++) {
            PathRide one = Faults.right(text, 4);
            PathRide other = Faults.right(mirror, 4);
            int all = one.count(3);
            Desk.due("all", other.count(3), all);
            for (int s = 0; s <= all; s++) {
                Desk.due("place " + s + " " + axis, other.place(s, axis), -one.place(s, axis));
            }
        }
    }

    private static void farOff() {
        Desk.promise(13, "for a CORNER (CUT above 0): as far off as may be, with as great a cut as may be");
        PathRide ride = Faults.right("tolerance 2000;to -100000 -100000 -100000 5;to 0 0 0 5;to 100000 100000 99000 5;", 3);
        Desk.due("sharp", ride.corner(1, 0), 155);
        Desk.due("cut", ride.corner(1, 1), 86314);
        int corner = 2 * 173205;
        at(ride, corner - 86314, -49833, -49833, -49833);
        at(ride, corner - 86313, -49832, -49832, -49832);
        at(ride, corner - 43157, -24906, -24906, -24937);
        at(ride, corner, 41, 41, -83);
        at(ride, corner + 43157, 25009, 25009, 24728);
        at(ride, corner + 86314, 49999, 49999, 49499);
        at(ride, corner + 172629, 100000, 100000, 99000);
        Desk.due("behind all", ride.place(corner + 172630, 0), Desk.MIN);
    }

    private static void whereIsThePlaceOfS() {
        Desk.promise(12, "WHERE it is");
        PathRide ride = Faults.right("tolerance 20;to 300 0 0 500;to 300 200 0 500;to 310 200 -100 500;", 3);
        for (int n = 0; n < 40; n++) {
            for (int axis = 0; axis <= 2; axis++) {
                Desk.due("where " + axis, ride.where(axis), ride.place(ride.count(4), axis));
            }
            ride.ticks(1);
        }
        Desk.due("done", ride.till(), 0);
        Desk.due("where 0", ride.where(0), 310);
        Desk.due("where 1", ride.where(1), 200);
        Desk.due("where 2", ride.where(2), -100);
    }
}
