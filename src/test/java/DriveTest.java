/** Promises 7 to 11, 14 to 18 and 24 to 26 with Terms II and III: how it goes, and what is ahead. */
public final class DriveTest {
    // its whole way, tick by tick: s, w, u
    private static final String SIXTY = "to 60 0 0 100;";
    private static final int[][] GOES = {
        {0, 0, 0}, {10, 1, 1}, {30, 2, 1}, {50, 2, 0}, {60, 1, -1}, {60, 0, -1}, {60, 0, 0}};

    public static void main(String[] args) {
        ticks();
        creeping();
        lessFeed();
        give();
        holdAndLetGo();
        undo();
        ahead();
        till();
        tried();
        slowest();
        brakes();
        run();
        halt();
        due();
        corners();
        tooLong();
        Desk.finish("DriveTest");
    }

    private static void stands(PathRide ride, String where, int s, int w, int u) {
        Desk.due(where + ": s", ride.count(4), s);
        Desk.due(where + ": w", ride.count(5), w);
        Desk.due(where + ": u", ride.count(6), u);
    }

    private static void ticks() {
        PathRide ride = Desk.riding(SIXTY);
        Desk.due("ticks 0", ride.ticks(0), -1);
        Desk.due("ticks 61", ride.ticks(61), -1);
        Desk.due("ticks -1", ride.ticks(-1), -1);
        Desk.due("ticks of the least", ride.ticks(Integer.MIN_VALUE), -1);
        Desk.due("no act came", ride.count(13), 0);
        for (int n = 1; n < GOES.length; n++) {
            Desk.due("ticks 1", ride.ticks(1), GOES[n][0]);
            stands(ride, "behind " + n, GOES[n][0], GOES[n][1], GOES[n][2]);
            Desk.due("acts", ride.count(13), n);
            Desk.due("ticks that were", ride.count(15), n);
        }
        Desk.due("done", ride.ticks(1), -2);
        Desk.due("done, but 61", ride.ticks(61), -1);
        Desk.due("no act came", ride.count(13), 6);
        Desk.due("nothing to go", new PathRide().ticks(1), -2);
        ride = Desk.riding(SIXTY);
        Desk.due("60 ticks stop when it is done", ride.ticks(60), 60);
        Desk.due("ticks that were", ride.count(15), 6);
        ride = Desk.riding("to 20 0 0 1000;");
        Desk.due("20 by 10", ride.ticks(2), 20);
        stands(ride, "behind 2", 20, 1, 0);
        Desk.due("rest", ride.ticks(60), 20);
        Desk.due("ticks that were", ride.count(15), 4);
        ride = Desk.riding("to 30 0 0 1000;");
        Desk.due("30 by 10", ride.ticks(2), 20);
        stands(ride, "behind 2", 20, 1, 0);
        Desk.due("30 by 10", ride.ticks(60), 30);
        Desk.due("ticks that were", ride.count(15), 5);
        Desk.due("the block of s is the last one", Desk.riding(SIXTY + "to 60 10 0 5;").ahead(300, 3), 1);
    }

    private static void creeping() {
        PathRide ride = Desk.riding("to 19 0 0 1000;");
        Desk.due("it creeps", ride.ticks(1), 19);
        stands(ride, "behind it", 19, 0, 0);
        Desk.due("ticks that were", ride.count(15), 1);
        Desk.due("done", ride.ticks(1), -2);
        ride = Desk.riding("to 19 0 0 1000;by 0 0 6 5;");
        Desk.due("over a corner it goes", ride.ticks(1), 10);
        ride = Desk.riding("to 9 0 0 1000;by 0 0 6 5;");
        Desk.due("over a corner it creeps", ride.ticks(1), 15);
        Desk.due("the block of s", ride.count(7), 1);
        ride = Desk.riding("to 19 0 0 1000;");
        ride.hold();
        Desk.due("held it does not creep", ride.ticks(2), 0);
        Desk.due("these were ticks", ride.count(15), 2);
        // 8 left behind what went by tens: at rest again, then the rest of it
        ride = Desk.riding("to 28 0 0 10;");
        Desk.due("to 20", ride.ticks(4), 20);
        stands(ride, "at rest", 20, 0, 0);
        Desk.due("to 28", ride.ticks(60), 28);
        Desk.due("ticks that were", ride.count(15), 5);
    }

    private static void lessFeed() {
        PathRide ride = Desk.riding("jerk 5;to 1000 0 0 1000;");
        Desk.due("ticks 3", ride.ticks(3), 50);
        stands(ride, "behind 3", 50, 6, 3);
        ride.give(1);
        Desk.due("limit", ride.block(0, 7), 2);
        int[][] goes = {{90, 8, 2}, {135, 9, 1}, {180, 9, 0}, {220, 8, -1}, {250, 6, -2}, {265, 3, -3},
            {270, 1, -2}, {270, 0, -1}, {270, 0, 0}, {275, 1, 1}, {285, 2, 1}, {295, 2, 0}};
        for (int n = 0; n < goes.length; n++) {
            ride.ticks(1);
            stands(ride, "behind " + (n + 1) + " of less feed", goes[n][0], goes[n][1], goes[n][2]);
        }
    }

    private static void give() {
        PathRide ride = Desk.riding(SIXTY);
        Desk.due("give as it is", ride.give(100), -1);
        Desk.due("give 0", ride.give(0), -1);
        Desk.due("give 201", ride.give(201), -1);
        Desk.due("give of the least", ride.give(Integer.MIN_VALUE), -1);
        Desk.due("no act came", ride.count(13), 0);
        Desk.due("give 1", ride.give(1), 100);
        Desk.due("give 200", ride.give(200), 1);
        Desk.due("given", ride.count(8), 200);
        Desk.due("limit", ride.block(0, 7), 20);
        Desk.due("acts", ride.count(13), 2);
    }

    private static void holdAndLetGo() {
        PathRide ride = Desk.riding(SIXTY);
        Desk.due("let go", ride.letGo(), false);
        Desk.due("no act came", ride.count(13), 0);
        ride.ticks(2);
        Desk.due("hold", ride.hold(), true);
        Desk.due("held", ride.count(9), 1);
        Desk.due("hold again", ride.hold(), false);
        Desk.due("acts", ride.count(13), 3);
        ride = Desk.riding("to 100 0 0 1000;");
        ride.ticks(1);
        ride.hold();
        Desk.due("brakes: w stays, u is 0", ride.ticks(1), 20);
        stands(ride, "held 1", 20, 1, 0);
        ride.ticks(1);
        stands(ride, "held 2", 20, 0, -1);
        ride.ticks(1);
        stands(ride, "held 3", 20, 0, 0);
        ride.ticks(60);
        stands(ride, "held 63", 20, 0, 0);
        Desk.due("ticks that were", ride.count(15), 64);
        Desk.due("let go", ride.letGo(), true);
        Desk.due("let go again", ride.letGo(), false);
        Desk.due("on it goes", ride.ticks(1), 30);
    }

    private static void undo() {
        PathRide ride = Desk.riding(SIXTY);
        Desk.due("nothing to undo", ride.undo(), -2);
        ride.ticks(2);
        ride.give(10);
        Desk.due("undo give", ride.undo(), 2);
        Desk.due("given", ride.count(8), 100);
        Desk.due("limit", ride.block(0, 7), 10);
        ride.hold();
        Desk.due("undo hold", ride.undo(), 2);
        Desk.due("held", ride.count(9), 0);
        Desk.due("undo a tick", ride.undo(), 1);
        stands(ride, "behind 1", 10, 1, 1);
        Desk.due("ticks that were", ride.count(15), 1);
        Desk.due("undo a tick", ride.undo(), 0);
        stands(ride, "at first", 0, 0, 0);
        Desk.due("nothing to undo", ride.undo(), -2);
        ride.hold();
        ride.ticks(60);
        Desk.due("20 can be undone", ride.count(13), 20);
        for (int n = 19; n >= 0; n--) {
            Desk.due("undo", ride.undo(), n);
        }
        Desk.due("a 21st cannot", ride.undo(), -2);
        Desk.due("ticks that were", ride.count(15), 40);
        // over the rim of what is kept, and on
        for (int n = 0; n < 33; n++) {
            ride.give(n + 1);
        }
        ride.undo();
        ride.undo();
        ride.give(77);
        Desk.due("acts", ride.count(13), 19);
        ride.undo();
        Desk.due("given", ride.count(8), 31);
        for (int n = 0; n < 18; n++) {
            ride.undo();
        }
        Desk.due("given", ride.count(8), 13);
        Desk.due("nothing to undo", ride.undo(), -2);
    }

    private static void ahead() {
        PathRide ride = Desk.riding(SIXTY);
        for (int n = 0; n < GOES.length; n++) {
            for (int what = 0; what < 3; what++) {
                Desk.due("ahead " + n + " " + what, ride.ahead(n, what), GOES[n][what]);
            }
            Desk.due("ahead " + n + " 3", ride.ahead(n, 3), 0);
        }
        Desk.due("ahead 300", ride.ahead(300, 0), 60);
        Desk.due("ahead 301", ride.ahead(301, 0), Desk.MIN);
        Desk.due("ahead -1", ride.ahead(-1, 0), Desk.MIN);
        Desk.due("ahead 1 4", ride.ahead(1, 4), Desk.MIN);
        Desk.due("ahead 1 -1", ride.ahead(1, -1), Desk.MIN);
        stands(ride, "nothing came of it", 0, 0, 0);
        ride.ticks(1);
        ride.hold();
        Desk.due("held it comes to rest", ride.ahead(300, 0), 20);
        ride = Desk.riding("to 40 0 0 1000;to 40 40 0 1000;");
        Desk.due("the block of s ahead", ride.ahead(0, 3), 0);
        for (int n = 0; n < 40; n++) {
            Desk.due("the block of s ahead", ride.ahead(n, 3), ride.ahead(n, 0) < 40 ? 0 : 1);
        }
        Desk.due("without a program", new PathRide().ahead(5, 3), -1);
        ride = Desk.riding("to 20 0 0 10;by 0 20 0 10;");
        Desk.due("at 10", ride.ahead(1, 3), 0);
        Desk.due("at 20", ride.ahead(2, 0), 20);
        Desk.due("at the end of a block the next one is the block of s", ride.ahead(2, 3), 1);
        ride.ticks(2);
        Desk.due("at 20", ride.count(7), 1);
    }

    private static void till() {
        PathRide ride = Desk.riding(SIXTY);
        Desk.due("till", ride.till(), 6);
        ride.ticks(2);
        Desk.due("till", ride.till(), 4);
        ride.hold();
        Desk.due("till, held", ride.till(), -2);
        ride.letGo();
        ride.ticks(60);
        Desk.due("till, done", ride.till(), 0);
        ride.hold();
        Desk.due("till, done and held", ride.till(), 0);
    }

    private static void tried() {
        PathRide ride = Desk.riding(SIXTY);
        ride.ticks(3);
        ride.hold();
        Desk.due("tried feed 100", ride.tried(2, 100), 6);
        Desk.due("tried feed 10: w is 1 at most", ride.tried(2, 10), 8);
        Desk.due("tried feed 1", ride.tried(2, 1), 8);
        Desk.due("tried jerk 10", ride.tried(1, 10), 6);
        Desk.due("tried jerk 30: twice 30", ride.tried(1, 30), 4);
        Desk.due("tried jerk 31: it creeps", ride.tried(1, 31), 1);
        Desk.due("tried tolerance", ride.tried(0, 2000), 6);
        int[][] wrongOnes = {{0, -1}, {0, 2001}, {1, 0}, {1, 51}, {2, 0}, {2, 201}, {3, 10}, {-1, 10}};
        for (int[] no : wrongOnes) {
            Desk.due("tried " + no[0] + " " + no[1], ride.tried(no[0], no[1]), -1);
        }
        stands(ride, "nothing came of it", 50, 2, 0);
        Desk.due("jerk as it was", ride.count(11), 10);
        ride.give(10);
        Desk.due("tried by what is given now", ride.tried(1, 10), 8);
        // as if the same were told by another tolerance, or jerk
        String bent = "to 500 0 0 2000;to 500 300 0 2000;to 0 300 200 2000;";
        int[] tolerances = {0, 5, 50, 400, 2000};
        int[] jerks = {1, 3, 10, 50};
        for (int n : tolerances) {
            int told = Desk.riding("tolerance " + n + ";" + bent).till();
            Desk.due("tried tolerance " + n, Desk.riding("tolerance 100;" + bent).tried(0, n), told);
        }
        for (int n : jerks) {
            int told = Desk.riding("jerk " + n + ";" + bent).till();
            Desk.due("tried jerk " + n, Desk.riding(bent).tried(1, n), told);
        }
        ride = Desk.riding("tolerance 0;" + bent);
        Desk.due("by more tolerance it is there earlier", ride.tried(0, 2000) < ride.till(), true);
        Desk.due("tried without a program", new PathRide().tried(1, 50), 0);
    }

    private static void slowest() {
        PathRide ride = Desk.riding(SIXTY);
        Desk.due("slowest 8", ride.slowest(8), 10);
        Desk.due("slowest 7", ride.slowest(7), 20);
        Desk.due("slowest 6", ride.slowest(6), 20);
        Desk.due("slowest 5", ride.slowest(5), -2);
        Desk.due("slowest 0", ride.slowest(0), -2);
        Desk.due("slowest -1", ride.slowest(-1), -1);
        Desk.due("slowest 3000", ride.slowest(3000), 10);
        Desk.due("slowest 3001", ride.slowest(3001), -1);
        ride.hold();
        Desk.due("slowest 7, were it not held", ride.slowest(7), 20);
        ride.letGo();
        ride.ticks(2);
        Desk.due("slowest 4, from now on: brakes alone take as long", ride.slowest(4), 10);
        Desk.due("slowest 3, from now on", ride.slowest(3), -2);
        ride.ticks(60);
        Desk.due("slowest 0, done", ride.slowest(0), 10);
        Desk.due("given as it was", ride.count(8), 100);
        ride = Desk.riding("to 1000 0 0 50;");
        for (int given = 10; given <= 200; given += 10) {
            int till = ride.tried(2, given);
            int slowest = ride.slowest(till);
            Desk.due("slowest is no more than " + given, slowest <= given && slowest > 0, true);
            Desk.due("slowest is in time", ride.tried(2, slowest) <= till, true);
            Desk.due("less is not", slowest == 10 || ride.tried(2, slowest - 10) > till, true);
        }
    }

    private static void brakes() {
        PathRide ride = Desk.riding(SIXTY);
        Desk.due("brakes 0 at rest", ride.brakes(0), 0);
        Desk.due("brakes 1 at rest", ride.brakes(1), 0);
        ride.ticks(2);
        Desk.due("brakes 0", ride.brakes(0), 4);
        Desk.due("brakes 1", ride.brakes(1), 30);
        Desk.due("brakes 2", ride.brakes(2), -1);
        Desk.due("brakes -1", ride.brakes(-1), -1);
        stands(ride, "nothing came of it", 30, 2, 1);
        // the reach bounds a brake, too
        ride = Desk.riding("axes 2000 2000 2000 10 10 10;to 1000 0 0 2000;");
        Desk.due("reach", ride.count(10), 1);
        ride.ticks(6);
        stands(ride, "by 1 in each tick", 210, 6, 1);
        Desk.due("brakes 0: 6 5 4 3 2 1 0 0", ride.brakes(0), 8);
        Desk.due("brakes 1", ride.brakes(1), 210);
    }

    private static void run() {
        PathRide ride = Desk.riding(SIXTY);
        int[] whole = {2, 2, 2, 0, 5};
        for (int what = 0; what < 5; what++) {
            Desk.due("run " + what, ride.run(what), whole[what]);
        }
        Desk.due("run 5", ride.run(5), -1);
        Desk.due("run -1", ride.run(-1), -1);
        ride.give(20);
        Desk.due("run 3: w is 2 twice", ride.run(3), 2);
        ride.ticks(3);
        ride.hold();
        int[] rest = {1, 1, 1, 0, 3};
        for (int what = 0; what < 5; what++) {
            Desk.due("run " + what + " of the rest, were it not held", ride.run(what), rest[what]);
        }
        ride.letGo();
        ride.ticks(60);
        for (int what = 0; what < 5; what++) {
            Desk.due("run " + what + ", done", ride.run(what), 0);
        }
        ride = Desk.riding("to 5 0 0 100;");
        int[] creeps = {0, 0, 0, 0, 1};
        for (int what = 0; what < 5; what++) {
            Desk.due("run " + what + ", creeping", ride.run(what), creeps[what]);
        }
    }

    private static void halt() {
        PathRide ride = Desk.riding(SIXTY);
        int[] halts = {0, 20, 60, 60, 60, 60, 60, 60};
        for (int n = 0; n < halts.length; n++) {
            Desk.due("halt " + n, ride.halt(n), halts[n]);
        }
        Desk.due("halt 300", ride.halt(300), 60);
        Desk.due("halt 301", ride.halt(301), -1);
        Desk.due("halt -1", ride.halt(-1), -1);
        ride.ticks(1);
        ride.hold();
        Desk.due("halt 300, held", ride.halt(300), 20);
        stands(ride, "nothing came of it", 10, 1, 1);
    }

    private static void due() {
        PathRide ride = Desk.riding(SIXTY);
        int[][] dues = {{0, 0}, {1, 1}, {10, 1}, {11, 2}, {30, 2}, {31, 3}, {50, 3}, {51, 4}, {60, 4}};
        for (int[] due : dues) {
            Desk.due("due " + due[0], ride.due(due[0]), due[1]);
        }
        Desk.due("due -1", ride.due(-1), -1);
        Desk.due("due 61", ride.due(61), -1);
        ride.ticks(2);
        Desk.due("due 30, it is there", ride.due(30), 0);
        Desk.due("due 5, it is further", ride.due(5), 0);
        Desk.due("due 31", ride.due(31), 1);
        ride.hold();
        Desk.due("due 31, held", ride.due(31), -2);
        Desk.due("due 30, held, but there", ride.due(30), 0);
        Desk.due("due 0 without a program", new PathRide().due(0), 0);
    }

    /** No limit of a block or a corner is ever passed too fast, and it always meets the end. */
    private static void corners() {
        PathRide ride = Desk.riding("tolerance 20;to 300 0 0 900;by 200 200 0 90;by 0 -150 40 1500;by 7 0 0 30;by 200 0 0 800;");
        int s = 0;
        int block = 0;
        while (ride.till() > 0) {
            ride.ticks(1);
            int w = ride.count(5);
            for (; block < ride.count(7); block++) {
                Desk.due("limit of a corner", w <= ride.corner(block, 2), true);
                Desk.due("limit of a block passed", w <= ride.block(block, 7), true);
            }
            Desk.due("limit of the block of s", w <= ride.block(block, 7), true);
            Desk.due("by jerk", ride.count(4) - s == w * 10 || ride.till() == 0, true);
            s = ride.count(4);
        }
        Desk.due("it meets the end", s, ride.count(3));
        Desk.due("the last block", block, 4);
    }

    private static void tooLong() {
        // by 1 a tick: 100000 is not done within 3000
        PathRide ride = Desk.riding("jerk 1;to 100000 0 0 1;");
        Desk.due("till", ride.till(), -2);
        Desk.due("run", ride.run(0), -2);
        Desk.due("run of another what", ride.run(5), -1);
        Desk.due("due 3000", ride.due(3000), 3000);
        Desk.due("due 3001", ride.due(3001), -2);
        Desk.due("ahead 300", ride.ahead(300, 0), 300);
        Desk.due("tried", ride.tried(2, 200), -2);
        Desk.due("slowest", ride.slowest(3000), -2);
        // done behind 3000, but not behind 2999
        ride = Desk.riding("jerk 1;to 2998 0 0 1;");
        Desk.due("till 2998", ride.till(), 3000);
        Desk.due("run 2998", ride.run(0), 1);
        Desk.due("slowest 2999", ride.slowest(2999), 200);
        ride = Desk.riding("jerk 1;to 2999 0 0 1;");
        Desk.due("till 2999", ride.till(), -2);
        Desk.due("run 2999", ride.run(0), -2);
        Desk.due("due 2999", ride.due(2999), 2999);
    }
}
