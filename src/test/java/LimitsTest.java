/** Promises 5, 6, 12, 13 and 27 with Term II: what bounds blocks and corners, and where it is. */
public final class LimitsTest {
    public static void main(String[] args) {
        blocks();
        corners();
        passes();
        limitsAndWhatBinds();
        reach();
        places();
        roundedPlaces();
        Desk.finish("LimitsTest");
    }

    private static void blocks() {
        PathRide ride = Desk.riding("axes 1000 500 2000 100 50 200;to 300 -400 0 600;by 0 0 1000 700;");
        int[] first = {300, -400, 0, 500, 600, 625, 62, 60, 0, 0};
        int[] second = {300, -400, 1000, 1000, 700, 2000, 200, 70, 110, 1};
        for (int what = 0; what < 10; what++) {
            Desk.due("block 0 " + what, ride.block(0, what), first[what]);
            Desk.due("block 1 " + what, ride.block(1, what), second[what]);
        }
        Desk.due("block 0 -1", ride.block(0, -1), -1);
        Desk.due("block 0 10", ride.block(0, 10), -1);
        Desk.due("block -1 0", ride.block(-1, 0), -1);
        Desk.due("block 2 0", ride.block(2, 0), -1);
        Desk.due("block of the greatest", ride.block(Integer.MAX_VALUE, Integer.MAX_VALUE), -1);
        Desk.due("block of the least", ride.block(Integer.MIN_VALUE, Integer.MIN_VALUE), -1);
        Desk.due("block of no program", new PathRide().block(0, 0), -1);
        Desk.due("lengths, together", ride.count(3), 1500);
        // a length is rounded downwards: the root of 3
        Desk.due("length", Desk.riding("to 1 1 1 5;").block(0, 3), 1);
        Desk.due("speed", Desk.riding("to 1 1 1 5;").block(0, 5), 2000);
        Desk.due("length", Desk.riding("to 100000 0 0 5;to -100000 100000 100000 5;").block(1, 3), 244948);
    }

    private static void corners() {
        PathRide ride = Desk.riding("axes 1000 500 2000 100 50 200;to 300 400 0 600;by 0 0 1000 700;");
        // bends -19660, -26214, 32768
        Desk.due("sharp", ride.corner(0, 0), 46340);
        Desk.due("cut", ride.corner(0, 1), 141);
        Desk.due("limit", ride.corner(0, 2), 11);
        Desk.due("corner 0 3", ride.corner(0, 3), -1);
        Desk.due("corner 0 -1", ride.corner(0, -1), -1);
        Desk.due("corner 1 0, behind the last", ride.corner(1, 0), -1);
        Desk.due("corner -1 0", ride.corner(-1, 0), -1);
        Desk.due("corner of the least", ride.corner(Integer.MIN_VALUE, 0), -1);
        Desk.due("corner of the greatest", ride.corner(Integer.MAX_VALUE, 0), -1);
        Desk.due("corner of no program", new PathRide().corner(0, 0), -1);
        // straight on
        ride = Desk.riding("to 100 0 0 600;by 50 0 0 700;");
        Desk.due("sharp", ride.corner(0, 0), 0);
        Desk.due("cut", ride.corner(0, 1), 0);
        Desk.due("limit", ride.corner(0, 2), 100);
        // back: half of the lesser length bounds the cut
        ride = Desk.riding("tolerance 2000;to 100 0 0 600;by -51 0 0 700;");
        Desk.due("sharp", ride.corner(0, 0), 65536);
        Desk.due("cut", ride.corner(0, 1), 25);
        Desk.due("limit: the root of 2 * 25 * 100 / 2 is 50, by 10", ride.corner(0, 2), 5);
        // no tolerance
        ride = Desk.riding("tolerance 0;to 100 0 0 600;by 0 100 0 700;");
        Desk.due("cut", ride.corner(0, 1), 0);
        Desk.due("limit", ride.corner(0, 2), 1);
        // hardly a bend: the limit is 100 at most
        ride = Desk.riding("jerk 1;tolerance 2000;to 50000 0 0 600;by 50000 2 0 700;");
        Desk.due("sharp", ride.corner(0, 0), 1);
        Desk.due("cut", ride.corner(0, 1), 25000);
        Desk.due("limit", ride.corner(0, 2), 100);
    }

    private static void passes() {
        PathRide ride = Desk.riding("tolerance 2000;to 10 0 0 100;to 20 0 0 100;to 30 0 0 100;");
        Desk.due("passes 0", ride.block(0, 8), 0);
        Desk.due("passes 1, forth from 0", ride.block(1, 8), 44);
        Desk.due("passes 2, back from 0", ride.block(2, 8), 44);
        ride = Desk.riding("to 10 0 0 100;to 20 0 0 100;to 30 0 0 100;to 40 0 0 100;");
        Desk.due("passes 2: 44 * 44 and 2000", ride.block(2, 8), 62);
        ride = Desk.riding("to 100 0 0 100;to 110 0 0 100;");
        Desk.due("passes 1, back from 0", ride.block(1, 8), 44);
        ride = Desk.riding("tolerance 0;to 1000 0 0 100;by 0 1000 0 100;");
        Desk.due("passes 1: the corner's limit", ride.block(1, 8), 10);
        // the feed does not bound it
        ride.give(1);
        Desk.due("passes 1", ride.block(1, 8), 10);
    }

    private static void limitsAndWhatBinds() {
        PathRide ride = Desk.riding("axes 1000 500 2000 100 50 200;to 300 400 0 600;by 0 0 1000 700;");
        Desk.due("binds 0", ride.binds(0), 3);
        ride.give(105);
        Desk.due("limit by 630, bound by 625", ride.block(0, 7), 62);
        Desk.due("binds 0", ride.binds(0), 1);
        Desk.due("limit of 1", ride.block(1, 7), 73);
        Desk.due("binds 1", ride.binds(1), 3);
        ride.give(200);
        Desk.due("limit of 1: 140", ride.block(1, 7), 100);
        Desk.due("binds 1", ride.binds(1), 4);
        ride.give(1);
        Desk.due("limit of 0: 6 by 10", ride.block(0, 7), 1);
        Desk.due("binds 0", ride.binds(0), 4);
        ride.give(2);
        Desk.due("limit of 0: 12 by 10", ride.block(0, 7), 1);
        Desk.due("binds 0", ride.binds(0), 3);
        ride.undo();
        Desk.due("binds 0, undone", ride.binds(0), 4);
        Desk.due("binds -1", ride.binds(-1), -1);
        Desk.due("binds 2", ride.binds(2), -1);
        Desk.due("binds of no program", new PathRide().binds(0), -1);
        Desk.due("X binds", Desk.riding("axes 500 2000 2000 9 9 9;to 100 0 0 1000;").binds(0), 0);
        Desk.due("of X and Y X binds", Desk.riding("axes 500 500 500 9 9 9;to 100 -100 0 1000;").binds(0), 0);
        Desk.due("Z binds", Desk.riding("axes 2000 2000 300 9 9 9;to 0 0 -100 1000;").binds(0), 2);
        Desk.due("just 100", Desk.riding("to 100 0 0 1000;").binds(0), 3);
        Desk.due("just above 100", Desk.riding("to 100 0 0 1010;").binds(0), 4);
        Desk.due("feed as speed", Desk.riding("axes 500 1 1 9 9 9;to 100 0 0 500;").binds(0), 3);
    }

    private static void reach() {
        Desk.due("reach", Desk.riding("axes 9 9 9 100 50 200;to 300 400 0 600;by 0 0 9 7;").count(10), 6);
        Desk.due("reach 1 at least", Desk.riding("jerk 50;axes 9 9 9 9 9 9;to 1 0 0 6;").count(10), 1);
        Desk.due("reach 12 at most", Desk.riding("jerk 1;to 1 0 0 6;").count(10), 12);
        Desk.due("reach of no block", Desk.riding("jerk 50;axes 9 9 9 9 9 9;").count(10), 12);
        Desk.due("jerk", Desk.riding("jerk 50;").count(11), 50);
        Desk.due("tolerance", Desk.riding("tolerance 0;").count(12), 0);
    }

    private static void at(PathRide ride, int s, int x, int y, int z) {
        Desk.due("place " + s + " X", ride.place(s, 0), x);
        Desk.due("place " + s + " Y", ride.place(s, 1), y);
        Desk.due("place " + s + " Z", ride.place(s, 2), z);
    }

    private static void places() {
        PathRide ride = Desk.riding("to -10 3 -2 100;");
        at(ride, 0, 0, 0, 0);
        at(ride, 5, -5, 1, -1);
        at(ride, 7, -7, 2, -1);
        at(ride, 9, -9, 2, -1);
        at(ride, 10, -10, 3, -2);
        Desk.due("place -1", ride.place(-1, 0), Desk.MIN);
        Desk.due("place 11", ride.place(11, 0), Desk.MIN);
        Desk.due("place, axis 3", ride.place(5, 3), Desk.MIN);
        Desk.due("place, axis -1", ride.place(5, -1), Desk.MIN);
        Desk.due("where, axis -1", ride.where(-1), Desk.MIN);
        Desk.due("where, axis 3", ride.where(3), Desk.MIN);
        PathRide none = new PathRide();
        at(none, 0, 0, 0, 0);
        Desk.due("where without a program", none.where(2), 0);
        Desk.due("place 1 without a program", none.place(1, 0), Desk.MIN);
    }

    private static void roundedPlaces() {
        PathRide ride = Desk.riding("tolerance 2000;to 100 0 0 500;to 100 100 0 500;to 200 100 0 500;");
        Desk.due("cut", ride.corner(0, 1), 50);
        at(ride, 49, 49, 0, 0);
        at(ride, 50, 50, 0, 0);
        // P (50, 0), C (100, 0), Q (100, 50), each by its share of 10000
        at(ride, 100, 87, 12, 0);
        at(ride, 70, 68, 2, 0);
        at(ride, 150, 100, 50, 0);
        at(ride, 200, 112, 87, 0);
        at(ride, 250, 150, 100, 0);
        at(ride, 300, 200, 100, 0);
        Desk.due("where at first", ride.where(0), 0);
        while (ride.count(4) < 100) {
            ride.ticks(1);
        }
        for (int axis = 0; axis < 3; axis++) {
            Desk.due("where " + axis, ride.where(axis), ride.place(ride.count(4), axis));
        }
        Desk.due("it has turned", ride.where(1) > 0, true);
        // where the cut begins it is at P already: (4, 2), not (4, 1)
        ride = Desk.riding("tolerance 2000;to 7 3 0 500;to 7 -20 0 500;");
        Desk.due("cut", ride.corner(0, 1), 3);
        at(ride, 3, 3, 1, 0);
        at(ride, 4, 4, 2, 0);
        at(ride, 10, 7, 0, 0);
        // cuts that do not touch: between them it goes straight
        ride = Desk.riding("tolerance 10;to -100 0 0 500;to -100 -100 -50 500;");
        Desk.due("cut", ride.corner(0, 1), 28);
        at(ride, 71, -71, 0, 0);
        at(ride, 72, -72, 0, 0);
        at(ride, 129, -100, -26, -13);
    }
}
