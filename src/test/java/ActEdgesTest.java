/** The edges of promises 8 to 11, 34 and 35: give, hold, letGo, undo, image, back. */
public final class ActEdgesTest {
    public static void main(String[] args) {
        giveOfOthers();
        giveAsItIs();
        giveWithinBounds();
        hold();
        letGo();
        undoOfNothing();
        undoOfTwenty();
        undoTheLastFirst();
        undoOfEachAct();
        notActs();
        imageOfAnotherK();
        imageOfEachK();
        imageWhereNothingWasTold();
        backWithoutOne();
        backToEach();
        backOfWhatIsNotInIt();
        imagesOfAnotherProgram();
        lastOfAllCalls();
        Desk.finish("ActEdgesTest");
    }

    // ---- promise 8 ----

    private static void giveOfOthers() {
        Desk.promise(8, "NONE, and nothing happens, for others");
        for (int percent : new int[] {0, -1, -100, 201, 202, Integer.MAX_VALUE, Integer.MIN_VALUE}) {
            Twins.refusedEverywhere("give " + percent, r -> r.give(percent), -1);
        }
    }

    private static void giveAsItIs() {
        Desk.promise(8, "NONE, and nothing happens, if it is so");
        Twins.refused("give 100 of a new desk", Twins::fresh, r -> r.give(100), -1);
        Twins.refused("give 80, given 80", Twins::going, r -> r.give(80), -1);
        Twins.refused("give 80, given 80, held", Twins::held, r -> r.give(80), -1);
        Twins.refused("give 80, given 80, done", Twins::done, r -> r.give(80), -1);
        Twins.refused("give 20, given 20", Twins::full, r -> r.give(20), -1);
        for (int percent : new int[] {1, 200}) {
            Twins.refused("give " + percent + " twice", () -> given(percent), r -> r.give(percent), -1);
        }
        Desk.due("give 79, given 80", Twins.going().give(79), 80);
        Desk.due("give 81, given 80", Twins.going().give(81), 80);
    }

    private static PathRide given(int percent) {
        PathRide ride = Twins.going();
        Desk.due("give " + percent, ride.give(percent), 80);
        return ride;
    }

    private static void giveWithinBounds() {
        Desk.promise(8, "GIVE (another GIVEN, 1 to 200): which was GIVEN");
        PathRide ride = Desk.riding("to 500 0 0 200;");
        int was = 100;
        int[][] rows = {{1, 1}, {2, 1}, {199, 39}, {200, 40}, {99, 19}, {101, 20}, {100, 20}};
        for (int[] row : rows) {
            Desk.due("give " + row[0], ride.give(row[0]), was);
            Desk.due("given", ride.count(8), row[0]);
            Desk.due("limit", ride.block(0, 7), row[1]);
            was = row[0];
        }
        Desk.due("acts", ride.count(13), rows.length);
        Desk.due("ticks that were", ride.count(15), 0);
    }

    // ---- promises 9 and 10 ----

    private static void hold() {
        Desk.promise(9, "HOLD: true; false, and nothing happens: it is HELD");
        Twins.Maker[] free = {Twins::fresh, Twins::going, Twins::done, Twins::full};
        for (Twins.Maker maker : free) {
            PathRide ride = maker.make();
            int acts = ride.count(13);
            Desk.due("hold", ride.hold(), true);
            Desk.due("held", ride.count(9), 1);
            Desk.due("acts", ride.count(13), Math.min(20, acts + 1));
            Twins.refused("hold again", () -> holding(maker), r -> r.hold() ? 1 : 0, 0);
        }
        Twins.refused("hold of a held one", Twins::held, r -> r.hold() ? 1 : 0, 0);
    }

    private static PathRide holding(Twins.Maker maker) {
        PathRide ride = maker.make();
        ride.hold();
        return ride;
    }

    private static void letGo() {
        Desk.promise(10, "LET GO: true; false, and nothing happens: it is not HELD");
        Twins.Maker[] free = {Twins::fresh, Twins::going, Twins::done, Twins::full};
        for (Twins.Maker maker : free) {
            Twins.refused("letGo", maker, r -> r.letGo() ? 1 : 0, 0);
            PathRide ride = holding(maker);
            int acts = ride.count(13);
            Desk.due("letGo", ride.letGo(), true);
            Desk.due("held", ride.count(9), 0);
            Desk.due("acts", ride.count(13), Math.min(20, acts + 1));
            Twins.refused("letGo again", () -> lettingGo(maker), r -> r.letGo() ? 1 : 0, 0);
        }
    }

    private static PathRide lettingGo(Twins.Maker maker) {
        PathRide ride = holding(maker);
        ride.letGo();
        return ride;
    }

    // ---- promise 11 ----

    private static void undoOfNothing() {
        Desk.promise(11, "-2, and nothing happens: none can");
        Twins.refused("undo of a new desk", Twins::fresh, r -> r.undo(), -2);
        Twins.refused("undo behind a program", () -> Desk.riding("to 5 5 5 5;"), r -> r.undo(), -2);
        Twins.refused("undo behind all were undone", ActEdgesTest::undone, r -> r.undo(), -2);
        Twins.refused("undo behind back", ActEdgesTest::calledBack, r -> r.undo(), -2);
    }

    private static PathRide undone() {
        PathRide ride = Twins.going();
        for (int left = 10; left >= 0; left--) {
            Desk.due("undo", ride.undo(), left);
        }
        return ride;
    }

    private static PathRide calledBack() {
        PathRide ride = Twins.going();
        ride.back(0);
        return ride;
    }

    private static void undoOfTwenty() {
        Desk.promise(11, "The last 20 can be UNDONE: how many more can be");
        for (int acts : new int[] {1, 2, 19, 20, 21, 22, 40, 41}) {
            PathRide ride = new PathRide();
            for (int n = 1; n <= acts; n++) {
                ride.give(n);
            }
            Desk.due("acts", ride.count(13), Math.min(20, acts));
            for (int left = Math.min(20, acts) - 1; left >= 0; left--) {
                Desk.due("undo", ride.undo(), left);
                Desk.due("acts", ride.count(13), left);
            }
            Desk.due("given, all undone, of " + acts, ride.count(8), acts <= 20 ? 100 : acts - 20);
            Desk.due("undo", ride.undo(), -2);
            Desk.due("given still", ride.count(8), acts <= 20 ? 100 : acts - 20);
        }
    }

    private static void undoTheLastFirst() {
        Desk.promise(11, "The last act is UNDONE");
        PathRide ride = new PathRide();
        for (int n = 1; n <= 20; n++) {
            ride.give(n);
        }
        for (int n = 19; n >= 1; n--) {
            ride.undo();
            Desk.due("given", ride.count(8), n);
        }
        ride.undo();
        Desk.due("given", ride.count(8), 100);
        // undone and done again, over and over: there are never more than were
        for (int n = 0; n < 50; n++) {
            ride.give(150);
            Desk.due("undo", ride.undo(), 0);
            Desk.due("given", ride.count(8), 100);
        }
        // behind 21 acts one is undone and another one done: 20 again
        ride = new PathRide();
        for (int n = 1; n <= 21; n++) {
            ride.give(n);
        }
        Desk.due("undo", ride.undo(), 19);
        ride.give(77);
        Desk.due("acts", ride.count(13), 20);
        ride.give(78);
        Desk.due("acts", ride.count(13), 20);
        for (int n = 0; n < 20; n++) {
            ride.undo();
        }
        Desk.due("given", ride.count(8), 2);
    }

    private static void undoOfEachAct() {
        Desk.promise(11, "Acts: a TICK (also if nothing comes of it), GIVE, HOLD, LET GO");
        undoes("a tick", Twins::going, r -> r.ticks(1));
        undoes("a tick of a held one", Twins::held, r -> r.ticks(1));
        undoes("a give", Twins::going, r -> r.give(200));
        undoes("a hold", Twins::going, r -> r.hold() ? 1 : 0);
        undoes("a letGo", Twins::held, r -> r.letGo() ? 1 : 0);
        undoes("a tick of nothing", ActEdgesTest::resting, r -> r.ticks(1));
        undoes("a tick that creeps", () -> Desk.riding("to 19 0 0 9;"), r -> r.ticks(1));
        // each tick is an act of its own
        PathRide ride = Twins.going();
        ride.ticks(3);
        for (int left = 13; left >= 11; left--) {
            Desk.due("undo", ride.undo(), left);
        }
        Twins.alike("three ticks undone", ride, Twins.going());
    }

    private static PathRide resting() {
        PathRide ride = Desk.riding("to 300 0 0 9;");
        ride.hold();
        return ride;
    }

    private static void undoes(String what, Twins.Maker maker, Twins.Call act) {
        PathRide ride = maker.make();
        int acts = ride.count(13);
        act.on(ride);
        Desk.due("acts behind " + what, ride.count(13), acts + 1);
        Desk.due("undo of " + what, ride.undo(), acts);
        Twins.alike(what + " undone", ride, maker.make());
    }

    /** What is no act cannot be undone and undoes nothing. */
    private static void notActs() {
        Desk.promise(11, "(By what is asked nothing changes.)");
        PathRide ride = Twins.going();
        ride.image(1);
        ride.keep(1);
        ride.feed(0x20202020, 0x20202020, 0x20202020, 0x20202020, 0x20202020);
        ride.end(5);
        Desk.due("acts", ride.count(13), 11);
        Desk.due("undo", ride.undo(), 10);
        Desk.due("the tape stays", ride.count(14), 5);
        Desk.due("the legs stay", ride.common(1), 3);
        Desk.due("the image stays", ride.back(1) >= 0, true);
    }

    // ---- promise 34 ----

    private static void imageOfAnotherK() {
        Desk.promise(34, "NONE for another k");
        for (int k : new int[] {-1, -2, 3, 4, Integer.MAX_VALUE, Integer.MIN_VALUE}) {
            Twins.refusedEverywhere("image " + k, r -> r.image(k), -1);
        }
    }

    private static void imageOfEachK() {
        Desk.promise(34, "An IMAGE is made: s (IMAGES 0 to 2)");
        for (int k = 0; k <= 2; k++) {
            PathRide ride = Twins.going();
            int s = ride.count(4);
            Desk.due("image " + k, ride.image(k), s);
            Desk.due("acts", ride.count(13), 11);
            ride.ticks(2);
            Desk.due("back " + k, ride.back(k), s);
            Desk.due("s", ride.count(4), s);
        }
        // one in place of another, the others stay
        PathRide ride = Desk.riding("to 500 0 0 10;");
        for (int k = 0; k <= 2; k++) {
            Desk.due("image", ride.image(k), 10 * k);
            ride.ticks(1);
        }
        Desk.due("image 1 again", ride.image(1), 30);
        Desk.due("back 0", ride.back(0), 0);
        Desk.due("back 2", ride.back(2), 20);
        Desk.due("back 1", ride.back(1), 30);
        Desk.due("back 1 once more", ride.back(1), 30);
    }

    private static void imageWhereNothingWasTold() {
        Desk.promise(34, "(it is made also where nothing was told yet)");
        for (int k = 0; k <= 2; k++) {
            PathRide ride = new PathRide();
            Desk.due("back " + k + ", none", ride.back(k), -1);
            Desk.due("image " + k, ride.image(k), 0);
            ride.give(7);
            ride.hold();
            Desk.due("back " + k, ride.back(k), 0);
            Desk.due("given", ride.count(8), 100);
            Desk.due("held", ride.count(9), 0);
            Desk.due("the block of s", ride.count(7), -1);
            Desk.due("undo", ride.undo(), -2);
        }
    }

    // ---- promise 35 ----

    private static void backWithoutOne() {
        Desk.promise(35, "NONE, and nothing happens, if there is none");
        for (int k : new int[] {-1, -2, 3, 4, Integer.MAX_VALUE, Integer.MIN_VALUE}) {
            Twins.refusedEverywhere("back " + k, r -> r.back(k), -1);
        }
        for (int k = 0; k <= 2; k++) {
            int asked = k;
            Twins.refused("back " + k + " of a new desk", Twins::fresh, r -> r.back(asked), -1);
        }
        Twins.refused("back 1", Twins::going, r -> r.back(1), -1);
        Twins.refused("back 1 of a held one", Twins::held, r -> r.back(1), -1);
        Twins.refused("back 1 of one that is done", Twins::done, r -> r.back(1), -1);
        Twins.refused("back 1 of one with twenty acts", Twins::full, r -> r.back(1), -1);
    }

    private static void backToEach() {
        Desk.promise(35, "All is as in an IMAGE (nothing can be UNDONE then): s");
        PathRide ride = Desk.riding("to 500 0 0 30;");
        ride.ticks(2);
        ride.give(50);
        ride.hold();
        int[] counts = {30, 2, 1, 0, 50, 1};
        Desk.due("image 0", ride.image(0), 30);
        ride.ticks(1);
        ride.letGo();
        ride.give(100);
        ride.ticks(9);
        Desk.due("back 0", ride.back(0), 30);
        int[] whats = {4, 5, 6, 7, 8, 9};
        for (int i = 0; i < whats.length; i++) {
            Desk.due("count " + whats[i], ride.count(whats[i]), counts[i]);
        }
        Desk.due("acts", ride.count(13), 0);
        Desk.due("ticks that were", ride.count(15), 2);
        Desk.due("limit", ride.block(0, 7), 1);
        Desk.due("undo", ride.undo(), -2);
        Desk.due("undone nothing", ride.count(4), 30);
        ride.ticks(1);
        Desk.due("undo of what came behind it", ride.undo(), 0);
        Desk.due("s", ride.count(4), 30);
        Desk.due("undo", ride.undo(), -2);
        // also where all is as in it already
        Desk.due("back 0", ride.back(0), 30);
        Desk.due("back 0", ride.back(0), 30);
    }

    private static void backOfWhatIsNotInIt() {
        Desk.promise(35, "IMAGES: s, w, u, GIVEN, HELD or not, how many TICKS were (and no more)");
        PathRide ride = Twins.going();
        ride.keep(1);
        Desk.type(ride, "mark z;");
        Desk.due("back 0", ride.back(0) >= 0, true);
        Desk.due("the tape stays", ride.count(14), 7);
        Desk.due("the legs stay", ride.common(1), 3);
        Desk.due("the other image stays", ride.back(2) >= 0, true);
        Desk.due("the program stays", ride.count(0), 3);
    }

    /** An object is used for at most 512 calls: the last one is answered as the first. */
    private static void lastOfAllCalls() {
        Desk.promise(8, "GIVE: which was GIVEN (in each of 512 calls)");
        PathRide ride = new PathRide();
        int was = 100;
        for (int call = 1; call <= 511; call++) {
            int percent = call % 200 + 1;
            Desk.due("give, call " + call, ride.give(percent), was);
            was = percent;
        }
        Desk.due("undo, call 512", ride.undo(), 19);
        Desk.promise(4, "how many BLOCKS (in each of 512 calls)");
        ride = new PathRide();
        for (int call = 3; call <= 510; call += 3) {
            ride.feed(0x6279202d, 0x31203020, 0x3020393b, 0x62792030, 0x20302031);
            Desk.due("end", ride.end(12), 12);
            Desk.due("program, call " + call, ride.program(), 1);
        }
        Desk.due("all, call 511", ride.count(3), 1);
        Desk.due("X, call 512", ride.block(0, 0), -1);
    }

    private static void imagesOfAnotherProgram() {
        Desk.promise(35, "IMAGES (none, when another PROGRAM is told)");
        for (String text : new String[] {"", "to 300 0 0 900;to 300 400 0 500;by 0 0 90 700;"}) {
            PathRide ride = Twins.going();
            ride.image(1);
            Desk.due("program", Desk.tell(ride, text) >= 0, true);
            for (int k = 0; k <= 2; k++) {
                Desk.due("back " + k, ride.back(k), -1);
            }
        }
        PathRide ride = Twins.going();
        Desk.due("a fault", Desk.tell(ride, "to 1 2 3 4"), -2 - (8 * 10 + 1));
        Desk.due("back 0, it is there still", ride.back(0) >= 0, true);
        Desk.due("back 2, it is there still", ride.back(2) >= 0, true);
    }
}
