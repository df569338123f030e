/** The edges of promises 15 to 19 and 24 to 26: till, tried, slowest, brakes, least, run, halt, due. */
public final class AheadEdgesTest {
    private static final String SIXTY = "to 60 0 0 100;";

    public static void main(String[] args) {
        tillDoneOrHeld();
        tillThreeThousand();
        triedWithoutThese();
        triedAtItsBounds();
        triedFromTheBeginning();
        triedThreeThousand();
        slowestOfAnotherN();
        slowestOfEachGiven();
        slowestFromNowOn();
        slowestThreeThousand();
        brakesOfOthers();
        brakesToRest();
        leastWithoutThese();
        leastOfAll();
        runOfOthers();
        runOfNoTicks();
        runCounts();
        runThreeThousand();
        haltOfAnotherN();
        haltBehindSoMany();
        dueOfAnotherS();
        dueThereOrFurther();
        dueThreeThousand();
        dueOfAHeldOne();
        Desk.finish("AheadEdgesTest");
    }

    /** Goes by 1 in each tick: it is done two ticks behind its end. */
    private static PathRide slow(int all) {
        return Desk.riding("jerk 1;to " + all + " 0 0 1;");
    }

    private static PathRide ridden(String text, int ticks) {
        PathRide ride = Desk.riding(text);
        ride.ticks(ticks);
        return ride;
    }

    // ---- promise 15 ----

    private static void tillDoneOrHeld() {
        Desk.promise(15, "TILL (0: it is DONE); -2: it is HELD, not DONE");
        Desk.due("till of a new desk", new PathRide().till(), 0);
        Desk.due("till without blocks", Desk.riding("by 0 0 0 5;").till(), 0);
        int[] left = {6, 5, 4, 3, 2, 1, 0};
        for (int n = 0; n < left.length; n++) {
            PathRide ride = Desk.riding(SIXTY);
            if (n > 0) {
                ride.ticks(n);
            }
            Desk.due("till behind " + n, ride.till(), left[n]);
            ride.hold();
            // at the end, but not at rest, it is not done
            Desk.due("till behind " + n + ", held", ride.till(), n < 6 ? -2 : 0);
            ride.letGo();
            Desk.due("till behind " + n + ", let go", ride.till(), left[n]);
        }
        PathRide held = new PathRide();
        held.hold();
        Desk.due("till of a new desk, held", held.till(), 0);
    }

    private static void tillThreeThousand() {
        Desk.promise(15, "-2: behind 3000 TICKS not yet");
        Desk.due("done behind 2999", slow(2997).till(), 2999);
        Desk.due("done behind 3000", slow(2998).till(), 3000);
        Desk.due("done behind 3001", slow(2999).till(), -2);
        PathRide ride = slow(2999);
        ride.ticks(1);
        Desk.due("one tick further", ride.till(), 3000);
        ride.ticks(1);
        Desk.due("two ticks further", ride.till(), 2999);
        ride.undo();
        ride.undo();
        Desk.due("both undone", ride.till(), -2);
    }

    // ---- promise 16 ----

    private static void triedWithoutThese() {
        Desk.promise(16, "NONE without these");
        int[][] none = {{0, -1}, {0, -2}, {0, 2001}, {0, 2002}, {1, 0}, {1, -1}, {1, 51}, {1, 52}, {2, 0}, {2, -1},
            {2, 201}, {2, 202}, {-1, 1}, {3, 1}, {-1, 100}, {3, 100}, {4, 5}};
        for (int[] row : none) {
            Twins.refusedEverywhere("tried " + row[0] + " " + row[1], r -> r.tried(row[0], row[1]), -1);
        }
        for (int what : new int[] {0, 1, 2, Integer.MAX_VALUE, Integer.MIN_VALUE}) {
            Twins.refusedEverywhere("tried " + what + " of the greatest", r -> r.tried(what, Integer.MAX_VALUE), -1);
            Twins.refusedEverywhere("tried " + what + " of the least", r -> r.tried(what, Integer.MIN_VALUE), -1);
        }
    }

    private static void triedAtItsBounds() {
        Desk.promise(16, "0: tolerance were n (0 to 2000), 1: jerk were n (1 to 50), 2: GIVEN were n (1 to 200)");
        String bent = "to 500 0 0 2000;to 500 300 0 2000;to 0 300 200 2000;";
        PathRide ride = Desk.riding("jerk 7;tolerance 99;" + bent);
        for (int n : new int[] {0, 1, 1999, 2000}) {
            int told = Desk.riding("jerk 7;tolerance " + n + ";" + bent).till();
            Desk.due("tried 0 " + n, ride.tried(0, n), told);
        }
        for (int n : new int[] {1, 2, 49, 50}) {
            int told = Desk.riding("tolerance 99;jerk " + n + ";" + bent).till();
            Desk.due("tried 1 " + n, ride.tried(1, n), told);
        }
        for (int n : new int[] {1, 2, 199, 200}) {
            PathRide given = Desk.riding("jerk 7;tolerance 99;" + bent);
            given.give(n);
            Desk.due("tried 2 " + n, ride.tried(2, n), given.till());
        }
        // far and fast, so that the reach matters: 12, 6, 12, 3, 12, 1, 12 by these jerks
        String far = "axes 5000 5000 5000 24 24 24;to 30000 0 0 5000;to 30000 20000 0 5000;";
        ride = Desk.riding("jerk 9;" + far);
        for (int n : new int[] {2, 4, 2, 8, 1, 24, 2}) {
            Desk.due("far, tried 1 " + n, ride.tried(1, n), Desk.riding("jerk " + n + ";" + far).till());
        }
        ride = Desk.riding("jerk 7;tolerance 99;" + bent);
        ride.tried(0, 0);
        ride.tried(1, 1);
        ride.tried(2, 1);
        Desk.due("tolerance as it was", ride.count(12), 99);
        Desk.due("jerk as it was", ride.count(11), 7);
        Desk.due("given as it was", ride.count(8), 100);
        Desk.due("tried 1 1 of a new desk", new PathRide().tried(1, 1), 0);
        Desk.due("tried 0 0 of a new desk", new PathRide().tried(0, 0), 0);
        Desk.promise(16, "(turns stay cut as they are)");
        // a quarter in one chord and a move on: were it cut anew by 0, it would be eight chords
        PathRide turn = Desk.riding("tolerance 2000;turn 0 500 1 0 900;by 0 500 0 900;");
        PathRide chord = Desk.riding("tolerance 0;by 500 500 0 900;by 0 500 0 900;");
        Desk.due("tried 0 0", turn.tried(0, 0), chord.till());
        Desk.due("its blocks", turn.count(0), 2);
    }

    private static void triedFromTheBeginning() {
        Desk.promise(16, "TILL from the beginning (REST, s 0, not HELD, GIVEN as it is)");
        for (int n = 1; n <= 6; n++) {
            PathRide ride = ridden(SIXTY, n);
            Desk.due("tried behind " + n, ride.tried(2, 100), 6);
            ride.hold();
            Desk.due("tried, held", ride.tried(1, 10), 6);
            Desk.due("tried, held", ride.tried(2, 10), 8);
            ride.give(10);
            Desk.due("tried, given 10", ride.tried(0, 50), 8);
            Desk.due("tried, given 10", ride.tried(2, 100), 6);
        }
        // by jerk 30 twice 30; by 31 it creeps at once
        PathRide ride = Desk.riding(SIXTY);
        Desk.due("tried 1 30", ride.tried(1, 30), 4);
        Desk.due("tried 1 31", ride.tried(1, 31), 1);
    }

    private static void triedThreeThousand() {
        Desk.promise(16, "-2: behind 3000 TICKS not yet");
        Desk.due("tried 2 100", slow(2997).tried(2, 100), 2999);
        Desk.due("tried 2 100", slow(2998).tried(2, 100), 3000);
        Desk.due("tried 2 100", slow(2999).tried(2, 100), -2);
        Desk.due("tried 1 1", slow(2998).tried(1, 1), 3000);
        Desk.due("tried 1 1", slow(2999).tried(1, 1), -2);
        Desk.due("tried 0 0", slow(2999).tried(0, 0), -2);
        // from the beginning: what is behind it does not count
        PathRide ride = slow(2999);
        ride.ticks(60);
        Desk.due("tried 2 100 from the beginning", ride.tried(2, 100), -2);
    }

    // ---- promise 17 ----

    private static void slowestOfAnotherN() {
        Desk.promise(17, "(n 0 to 3000); NONE for another n");
        for (int n : new int[] {-1, -2, 3001, 3002, Integer.MAX_VALUE, Integer.MIN_VALUE}) {
            Twins.refusedEverywhere("slowest " + n, r -> r.slowest(n), -1);
        }
        Desk.promise(17, "TILL is n TICKS at most (0: it is DONE)");
        Desk.due("slowest 0 of a new desk", new PathRide().slowest(0), 10);
        Desk.due("slowest 3000 of a new desk", new PathRide().slowest(3000), 10);
        Desk.due("slowest 0 of one that is done", ridden(SIXTY, 6).slowest(0), 10);
        Desk.due("slowest 0", ridden(SIXTY, 5).slowest(0), -2);
        Desk.due("slowest 1", ridden(SIXTY, 5).slowest(1), 10);
    }

    private static void slowestOfEachGiven() {
        Desk.promise(17, "the least GIVEN of 10, 20, .. 200 by which TILL is n TICKS at most; -2: by none");
        // 60 long: by a limit of 1 eight ticks, by 2 and more six
        int[][] feeds = {{200, 10}, {199, 20}, {100, 20}, {99, 30}, {50, 40}, {20, 100}, {19, 110}, {12, 170}, {11, 190}, {10, 200}};
        for (int[] row : feeds) {
            PathRide ride = Desk.riding("to 60 0 0 " + row[0] + ";");
            Desk.due("slowest 3000 of feed " + row[0], ride.slowest(3000), 10);
            Desk.due("slowest 8 of feed " + row[0], ride.slowest(8), 10);
            Desk.due("slowest 7 of feed " + row[0], ride.slowest(7), row[1]);
            Desk.due("slowest 6 of feed " + row[0], ride.slowest(6), row[1]);
            Desk.due("slowest 5 of feed " + row[0], ride.slowest(5), -2);
            Desk.due("slowest 0 of feed " + row[0], ride.slowest(0), -2);
            Desk.due("given as it was", ride.count(8), 100);
        }
        // by 200 it is not two yet
        PathRide ride = Desk.riding("to 60 0 0 9;");
        Desk.due("slowest 8 of feed 9", ride.slowest(8), 10);
        Desk.due("slowest 7 of feed 9", ride.slowest(7), -2);
    }

    private static void slowestFromNowOn() {
        Desk.promise(17, "TILL from now on (if it were not HELD)");
        PathRide ride = ridden("to 60 0 0 10;", 2);
        // at 20 by 1, u 0: six ticks by a limit of 1; by 2: 40, 50, 60, 60, 60
        Desk.due("slowest 6", ride.slowest(6), 10);
        Desk.due("slowest 5", ride.slowest(5), -2);
        ride.hold();
        Desk.due("slowest 6, held", ride.slowest(6), 10);
        Desk.due("slowest 5, held", ride.slowest(5), -2);
        Desk.due("it is held still", ride.count(9), 1);
        ride = Desk.riding("to 60 0 0 10;");
        ride.hold();
        Desk.due("slowest 7, held", ride.slowest(7), 200);
        ride.give(1);
        Desk.due("slowest 7, given 1", ride.slowest(7), 200);
    }

    private static void slowestThreeThousand() {
        Desk.promise(17, "(n 0 to 3000)");
        // by given 200 the limit is 2, else 1
        PathRide ride = slow(2998);
        Desk.due("slowest 3000", ride.slowest(3000), 10);
        Desk.due("slowest 2999", ride.slowest(2999), 200);
        Desk.due("slowest 3000 of one longer", slow(2999).slowest(3000), 200);
        Desk.due("slowest 3000 of far too much", slow(100000).slowest(3000), -2);
    }

    // ---- promise 18 ----

    private static void brakesOfOthers() {
        Desk.promise(18, "NONE for others");
        for (int what : new int[] {-1, -2, 2, 3, Integer.MAX_VALUE, Integer.MIN_VALUE}) {
            Twins.refusedEverywhere("brakes " + what, r -> r.brakes(what), -1);
        }
    }

    private static void brakesToRest() {
        Desk.promise(18, "How many TICKS BRAKES take from now on to REST (what 0), how far it goes by them (1)");
        // behind each tick of the way: 10, 30, 50, 60, 60, 60
        int[][] rows = {{0, 0}, {3, 10}, {4, 30}, {3, 10}, {2, 0}, {1, 0}, {0, 0}};
        for (int n = 0; n < rows.length; n++) {
            PathRide ride = Desk.riding(SIXTY);
            if (n > 0) {
                ride.ticks(n);
            }
            Desk.due("brakes 0 behind " + n, ride.brakes(0), rows[n][0]);
            Desk.due("brakes 1 behind " + n, ride.brakes(1), rows[n][1]);
            ride.hold();
            Desk.due("brakes 0 behind " + n + ", held", ride.brakes(0), rows[n][0]);
            Desk.due("brakes 1 behind " + n + ", held", ride.brakes(1), rows[n][1]);
        }
        Desk.due("brakes 0 of a new desk", new PathRide().brakes(0), 0);
        Desk.due("brakes 1 of a new desk", new PathRide().brakes(1), 0);
        // by a reach of 1: 6, 5, .. 1, 0, 0
        PathRide ride = ridden("axes 2000 2000 2000 10 10 10;to 1000 0 0 2000;", 6);
        Desk.due("brakes 0", ride.brakes(0), 8);
        Desk.due("brakes 1", ride.brakes(1), 210);
    }

    // ---- promise 19 ----

    private static void leastWithoutThese() {
        Desk.promise(19, "NONE without these (w 0 to 40, u -6 to 6)");
        int[][] none = {{-1, 0}, {-2, 0}, {41, 0}, {42, 0}, {60, 0}, {0, -7}, {0, 7}, {-1, -6}, {41, 6}, {41, -6},
            {-1, 6}, {40, 7}, {40, -7}, {Integer.MAX_VALUE, 0}, {Integer.MIN_VALUE, 0}, {0, Integer.MAX_VALUE},
            {0, Integer.MIN_VALUE}};
        for (int[] row : none) {
            Twins.refusedEverywhere("least " + row[0] + " " + row[1], r -> r.least(row[0], row[1]), -1);
        }
        Desk.promise(19, "-2: there is no such row");
        // w is w and u more, and 0 at least: from u by at most one less below 0
        int[][] leasts = {{0, 0, 0}, {0, 1, 0}, {0, -1, 0}, {0, -2, -2}, {1, -2, 0}, {2, -2, 1}, {1, -3, -2}, {2, -3, -2},
            {3, -3, 1}, {4, -3, 3}, {0, -6, -2}, {14, -6, -2}, {0, 2, 2}, {1, 0, 0}, {1, 1, 1}, {1, -1, 0}};
        for (int[] row : leasts) {
            Desk.due("least " + row[0] + " " + row[1], new PathRide().least(row[0], row[1]), row[2]);
        }
    }

    /** Every one of them, against what Oracle works out the other way round. */
    private static void leastOfAll() {
        Desk.promise(19, "LEAST");
        Oracle due = new Oracle();
        for (int u = -6; u <= 6; u++) {
            PathRide ride = new PathRide();
            for (int w = 0; w <= 40; w++) {
                Desk.due("least " + w + " " + u, ride.least(w, u), due.least(w, u));
            }
        }
        // from 40 by 6: 45, 49, 52, 54, 55, 55, and down again by 1, 2, .. 6 and so on
        Desk.due("it can be asked first", new PathRide().least(40, 6), due.least(40, 6));
        // it is the same whatever the program is
        PathRide ride = Twins.going();
        Desk.due("least 40 6", ride.least(40, 6), due.least(40, 6));
        Desk.due("least 40 -6", ride.least(40, -6), due.least(40, -6));
    }

    // ---- promise 24 ----

    private static void runOfOthers() {
        Desk.promise(24, "NONE for others");
        for (int what : new int[] {-1, -2, 5, 6, Integer.MAX_VALUE, Integer.MIN_VALUE}) {
            Twins.refusedEverywhere("run " + what, r -> r.run(what), -1);
            Desk.due("run " + what + ", not done within 3000", slow(2999).run(what), -1);
        }
    }

    private static void runs(String what, PathRide ride, int... due) {
        for (int i = 0; i < due.length; i++) {
            Desk.due("run " + i + " " + what, ride.run(i), due[i]);
        }
    }

    private static void runOfNoTicks() {
        Desk.promise(24, "(0: there are none)");
        runs("of a new desk", new PathRide(), 0, 0, 0, 0, 0);
        runs("of one that is done", ridden(SIXTY, 6), 0, 0, 0, 0, 0);
        PathRide ride = ridden(SIXTY, 6);
        ride.hold();
        runs("of one that is done and held", ride, 0, 0, 0, 0, 0);
        // one tick is left: u comes from -1 to 0
        runs("with one tick left", ridden(SIXTY, 5), 0, 1, 0, 0, 1);
    }

    private static void runCounts() {
        Desk.promise(24, "0: the greatest w, 1: u becomes more, 2: less, 3: w is the LIMIT, 4: PARTS");
        // u: +1, 0, -1, -1, 0, +1
        runs("of sixty", Desk.riding(SIXTY), 2, 2, 2, 0, 5);
        // u: +1, -1, 0 four times, -1, +1; w is 1, the limit, behind six of them
        runs("by a limit of 1", Desk.riding("to 60 0 0 10;"), 1, 2, 2, 6, 5);
        // by a limit of 2, twice
        runs("by a limit of 2", Desk.riding("to 60 0 0 20;"), 2, 2, 2, 2, 5);
        runs("by a limit of 3", Desk.riding("to 60 0 0 30;"), 2, 2, 2, 0, 5);
        Desk.promise(24, "creeping 0");
        runs("that creeps", Desk.riding("to 19 0 0 10;"), 0, 0, 0, 0, 1);
        runs("that creeps behind its going", Desk.riding("to 21 0 0 10;"), 1, 2, 2, 2, 4);
        // u: +1, -1, -1, +1
        runs("that does not creep", Desk.riding("to 20 0 0 10;"), 1, 2, 2, 2, 3);
        Desk.promise(24, "the LIMIT of the BLOCK of s then");
        // 2 behind 30 and 50; 1 behind 70 to 100, where the next block is of 1; not behind 10 and 60.
        // u: +1, 0, -1 twice, +1, 0 three times, -1, +1
        runs("down to 1", Desk.riding("to 70 0 0 20;by 30 0 0 10;"), 2, 3, 3, 6, 7);
        Desk.promise(24, "RUN: the TICKS from now till it is DONE, were it not HELD");
        PathRide ride = ridden(SIXTY, 3);
        // from 50 by 2, u 0: -1, 0, +1
        runs("from now on", ride, 1, 1, 1, 0, 3);
        ride.hold();
        runs("were it not held", ride, 1, 1, 1, 0, 3);
        ride.ticks(60);
        // at rest at 60
        runs("done, held", ride, 0, 0, 0, 0, 0);
        // held at the beginning, and at 10: its brakes alone would not bring it to its end
        ride = Desk.riding(SIXTY);
        ride.hold();
        runs("from the beginning, were it not held", ride, 2, 2, 2, 0, 5);
        ride = ridden(SIXTY, 1);
        ride.hold();
        runs("from 10, were it not held", ride, 2, 1, 2, 0, 4);
        Desk.due("it is held still", ride.count(9), 1);
    }

    private static void runThreeThousand() {
        Desk.promise(24, "-2: it is not DONE within 3000");
        runs("done behind 2999", slow(2997), 1, 2, 2, 2997, 5);
        runs("done behind 3000", slow(2998), 1, 2, 2, 2998, 5);
        runs("done behind 3001", slow(2999), -2, -2, -2, -2, -2);
        PathRide ride = slow(2999);
        ride.ticks(1);
        // u: -1, 0, .. -1, +1
        runs("one tick further", ride, 1, 1, 2, 2998, 4);
    }

    // ---- promise 25 ----

    private static void haltOfAnotherN() {
        Desk.promise(25, "HALT (n 0 to 300); NONE for another n");
        for (int n : new int[] {-1, -2, 301, 302, Integer.MAX_VALUE, Integer.MIN_VALUE}) {
            Twins.refusedEverywhere("halt " + n, r -> r.halt(n), -1);
        }
    }

    private static void haltBehindSoMany() {
        Desk.promise(25, "where it would come to REST, were it HELD behind n TICKS more");
        int[] halts = {0, 20, 60, 60, 60, 60, 60, 60};
        PathRide ride = Desk.riding(SIXTY);
        for (int n = 0; n < halts.length; n++) {
            Desk.due("halt " + n, ride.halt(n), halts[n]);
        }
        ride = slow(1000);
        int[][] rows = {{0, 0}, {1, 2}, {2, 2}, {3, 3}, {299, 299}, {300, 300}};
        for (int[] row : rows) {
            Desk.due("halt " + row[0], ride.halt(row[0]), row[1]);
        }
        Desk.due("halt 0 of a new desk", new PathRide().halt(0), 0);
        Desk.due("halt 300 of a new desk", new PathRide().halt(300), 0);
        // held already: where it comes to rest, however many ticks more
        ride = ridden("to 100 0 0 1000;", 1);
        Desk.due("halt 0", ride.halt(0), 20);
        Desk.due("halt 1", ride.halt(1), 60);
        ride.hold();
        for (int n : new int[] {0, 1, 2, 3, 300}) {
            Desk.due("halt " + n + ", held", ride.halt(n), 20);
        }
    }

    // ---- promise 26 ----

    private static void dueOfAnotherS() {
        Desk.promise(26, "DUE (s 0 to ALL); NONE for another s");
        for (int s : new int[] {-1, -2, 791, 792, Integer.MAX_VALUE, Integer.MIN_VALUE}) {
            Twins.refusedEverywhere("due " + s, r -> r.due(s), -1);
        }
        Twins.refused("due 1 of a new desk", Twins::fresh, r -> r.due(1), -1);
        Desk.due("due 0 of a new desk", new PathRide().due(0), 0);
        Desk.due("due 790 of 790", Twins.done().due(790), 0);
        Desk.due("due 61 of 60", Desk.riding(SIXTY).due(61), -1);
        Desk.due("due 60 of 60", Desk.riding(SIXTY).due(60), 4);
    }

    private static void dueThereOrFurther() {
        Desk.promise(26, "how many TICKS, till it is at s or further (0: it is there, or further)");
        int[][] dues = {{0, 0}, {1, 1}, {9, 1}, {10, 1}, {11, 2}, {29, 2}, {30, 2}, {31, 3}, {50, 3}, {51, 4}, {59, 4}, {60, 4}};
        PathRide ride = Desk.riding(SIXTY);
        for (int[] due : dues) {
            Desk.due("due " + due[0], ride.due(due[0]), due[1]);
        }
        ride.ticks(2);
        int[][] on = {{0, 0}, {29, 0}, {30, 0}, {31, 1}, {50, 1}, {51, 2}, {60, 2}};
        for (int[] due : on) {
            Desk.due("due " + due[0] + " from 30", ride.due(due[0]), due[1]);
        }
        // it creeps there
        Desk.due("due 1", Desk.riding("to 19 0 0 10;").due(1), 1);
        Desk.due("due 19", Desk.riding("to 19 0 0 10;").due(19), 1);
        ride = Desk.riding("to 21 0 0 10;");
        Desk.due("due 20", ride.due(20), 2);
        Desk.due("due 21", ride.due(21), 5);
    }

    private static void dueThreeThousand() {
        Desk.promise(26, "-2: not within 3000 TICKS");
        PathRide ride = slow(5000);
        Desk.due("due 2999", ride.due(2999), 2999);
        Desk.due("due 3000", ride.due(3000), 3000);
        Desk.due("due 3001", ride.due(3001), -2);
        Desk.due("due 5000", ride.due(5000), -2);
        ride.ticks(1);
        Desk.due("due 3001 from 1", ride.due(3001), 3000);
        Desk.due("due 3002 from 1", ride.due(3002), -2);
        Desk.due("due 5001", ride.due(5001), -1);
    }

    private static void dueOfAHeldOne() {
        Desk.promise(26, "-2: HELD (not there)");
        PathRide ride = ridden(SIXTY, 2);
        ride.hold();
        int[][] dues = {{0, 0}, {29, 0}, {30, 0}, {31, -2}, {50, -2}, {60, -2}, {61, -1}, {-1, -1}};
        for (int[] due : dues) {
            Desk.due("due " + due[0] + ", held", ride.due(due[0]), due[1]);
        }
        // though it would come there by its brakes
        Desk.due("halt", ride.halt(0), 60);
        ride.letGo();
        Desk.due("due 31, let go", ride.due(31), 1);
    }
}
