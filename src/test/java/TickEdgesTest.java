/** The edges of promises 7 and 14, with Term II: how it goes tick by tick, and how it is so many ticks ahead. */
public final class TickEdgesTest {
    public static void main(String[] args) {
        ticksOfAnotherNumber();
        ticksOneAndSixty();
        ticksTillDone();
        ticksOfOneThatIsDone();
        creepsOrGoes();
        endsAtAll();
        limitOfABlock();
        limitOfAHundred();
        fromFarAhead();
        limitOfTheBlockAhead();
        limitOfTheBlockBehind();
        limitOfABlockBetween();
        limitOfACorner();
        reach();
        brakesOfAHeldOne();
        heldAtRest();
        lessGiven();
        aheadWithoutThese();
        aheadUpToItsEnd();
        aheadOfAHeldOne();
        aheadBlocks();
        Desk.finish("TickEdgesTest");
    }

    /** The whole way from the beginning: s, w, u behind each tick; at last it is done. */
    private static void walk(String text, int[]... rows) {
        PathRide ride = Desk.riding(text);
        PathRide still = Desk.riding(text);
        Desk.due(text + ": till", ride.till(), rows.length);
        for (int n = 1; n <= rows.length; n++) {
            int[] row = rows[n - 1];
            Desk.due(text + ": tick " + n, ride.ticks(1), row[0]);
            stands(text + ": behind " + n, ride, row[0], row[1], row[2]);
            for (int what = 0; what < 3; what++) {
                Desk.due(text + ": ahead " + n + " " + what, still.ahead(n, what), row[what]);
            }
        }
        Desk.due(text + ": a tick more", ride.ticks(1), -2);
    }

    private static void stands(String where, PathRide ride, int s, int w, int u) {
        Desk.due(where + ": s", ride.count(4), s);
        Desk.due(where + ": w", ride.count(5), w);
        Desk.due(where + ": u", ride.count(6), u);
    }

    private static int[] at(int s, int w, int u) {
        return new int[] {s, w, u};
    }

    // ---- promise 7 ----

    private static void ticksOfAnotherNumber() {
        Desk.promise(7, "NONE, and nothing happens, for another n");
        for (int n : new int[] {0, -1, -60, 61, 62, Integer.MAX_VALUE, Integer.MIN_VALUE}) {
            Twins.refusedEverywhere("ticks " + n, r -> r.ticks(n), -1);
        }
    }

    private static void ticksOneAndSixty() {
        Desk.promise(7, "n TICKS (1 to 60), each an act: s then");
        int[][] rows = {{1, 10}, {2, 20}, {59, 590}, {60, 600}};
        for (int[] row : rows) {
            PathRide ride = Desk.riding("to 1000 0 0 10;");
            Desk.due("ticks " + row[0], ride.ticks(row[0]), row[1]);
            Desk.due("ticks that were", ride.count(15), row[0]);
            Desk.due("acts", ride.count(13), Math.min(20, row[0]));
        }
        // so many at once, or one by one
        PathRide one = Twins.going();
        for (int n = 0; n < 7; n++) {
            one.ticks(1);
        }
        PathRide seven = Twins.going();
        seven.ticks(7);
        Twins.alike("seven at once", seven, one);
    }

    private static void ticksTillDone() {
        Desk.promise(7, "n TICKS, till it is DONE");
        int[][] rows = {{5, 60, 5, 1}, {6, 60, 6, 0}, {7, 60, 6, 0}, {60, 60, 6, 0}};
        for (int[] row : rows) {
            PathRide ride = Desk.riding("to 60 0 0 100;");
            Desk.due("ticks " + row[0], ride.ticks(row[0]), row[1]);
            Desk.due("ticks that were", ride.count(15), row[2]);
            Desk.due("acts", ride.count(13), row[2]);
            Desk.due("till", ride.till(), row[3]);
            Desk.due("a tick more", ride.ticks(1), row[3] == 0 ? -2 : 60);
        }
    }

    private static void ticksOfOneThatIsDone() {
        Desk.promise(7, "-2: it was DONE");
        for (int n : new int[] {1, 2, 59, 60}) {
            Twins.refused("ticks " + n + " of one that is done", Twins::done, r -> r.ticks(n), -2);
            Twins.refused("ticks " + n + " of a new desk", Twins::fresh, r -> r.ticks(n), -2);
            Twins.refused("ticks " + n + " without blocks", () -> Desk.riding("mark a;by 0 0 0 5;"), r -> r.ticks(n), -2);
            Twins.refused("ticks " + n + " of one that is done and held", TickEdgesTest::doneAndHeld, r -> r.ticks(n), -2);
        }
        // at ALL, but not at rest: it is not done yet
        PathRide ride = Desk.riding("to 20 0 0 1000;");
        ride.ticks(2);
        stands("at the end", ride, 20, 1, 0);
        Desk.due("a tick", ride.ticks(1), 20);
        stands("at the end", ride, 20, 0, -1);
        Desk.due("a tick", ride.ticks(1), 20);
        stands("at the end", ride, 20, 0, 0);
        Desk.due("a tick", ride.ticks(1), -2);
        Desk.due("ticks that were", ride.count(15), 4);
    }

    private static PathRide doneAndHeld() {
        PathRide ride = Twins.done();
        Desk.due("done", ride.till(), 0);
        Desk.due("hold", ride.hold(), true);
        return ride;
    }

    // ---- Term II ----

    private static void creepsOrGoes() {
        Desk.promise(7, "if less than 2 * J is left, s is ALL (it CREPT)");
        walk("to 1 0 0 1000;", at(1, 0, 0));
        walk("to 18 0 0 1000;", at(18, 0, 0));
        walk("to 19 0 0 1000;", at(19, 0, 0));
        walk("to 20 0 0 1000;", at(10, 1, 1), at(20, 1, 0), at(20, 0, -1), at(20, 0, 0));
        walk("to 21 0 0 1000;", at(10, 1, 1), at(20, 1, 0), at(20, 0, -1), at(20, 0, 0), at(21, 0, 0));
        walk("to 29 0 0 1000;", at(10, 1, 1), at(20, 1, 0), at(20, 0, -1), at(20, 0, 0), at(29, 0, 0));
        walk("jerk 1;to 1 0 0 9;", at(1, 0, 0));
        walk("jerk 1;to 2 0 0 9;", at(1, 1, 1), at(2, 1, 0), at(2, 0, -1), at(2, 0, 0));
        walk("jerk 50;to 99 0 0 9;", at(99, 0, 0));
        walk("jerk 50;to 100 0 0 9;", at(50, 1, 1), at(100, 1, 0), at(100, 0, -1), at(100, 0, 0));
        walk("to 9 0 0 1000;by 0 10 0 1000;", at(19, 0, 0));
        PathRide ride = Desk.riding("to 9 0 0 1000;by 0 10 0 1000;");
        ride.ticks(1);
        Desk.due("the block of s", ride.count(7), 1);
        Desk.due("Y", ride.where(1), 10);
    }

    private static void endsAtAll() {
        Desk.promise(7, "s is ALL at most");
        walk("to 30 0 0 1000;", at(10, 1, 1), at(20, 1, 0), at(30, 1, 0), at(30, 0, -1), at(30, 0, 0));
        walk("to 50 0 0 1000;", at(10, 1, 1), at(20, 1, 0), at(30, 1, 0), at(40, 1, 0), at(50, 1, 0), at(50, 0, -1),
            at(50, 0, 0));
        walk("to 59 0 0 1000;", at(10, 1, 1), at(20, 1, 0), at(30, 1, 0), at(40, 1, 0), at(50, 1, 0), at(50, 0, -1),
            at(50, 0, 0), at(59, 0, 0));
        // 10, 20, 20, 10: it comes out even
        walk("to 60 0 0 1000;", at(10, 1, 1), at(30, 2, 1), at(50, 2, 0), at(60, 1, -1), at(60, 0, -1), at(60, 0, 0));
        walk("to 61 0 0 1000;", at(10, 1, 1), at(30, 2, 1), at(50, 2, 0), at(60, 1, -1), at(60, 0, -1), at(60, 0, 0),
            at(61, 0, 0));
    }

    private static void limitOfABlock() {
        Desk.promise(7, "w is no more than LIMIT of any BLOCK");
        walk("to 60 0 0 10;", at(10, 1, 1), at(20, 1, 0), at(30, 1, 0), at(40, 1, 0), at(50, 1, 0), at(60, 1, 0),
            at(60, 0, -1), at(60, 0, 0));
        walk("to 110 0 0 20;", at(10, 1, 1), at(30, 2, 1), at(50, 2, 0), at(70, 2, 0), at(90, 2, 0), at(100, 1, -1),
            at(110, 1, 0), at(110, 0, -1), at(110, 0, 0));
        // up to 3 with u 1, not 2: by 2 the brakes would come to 4
        walk("to 200 0 0 30;", at(10, 1, 1), at(30, 2, 1), at(60, 3, 1), at(90, 3, 0), at(120, 3, 0), at(150, 3, 0),
            at(170, 2, -1), at(190, 2, 0), at(200, 1, -1), at(200, 0, -1), at(200, 0, 0));
        // by 4 they may
        walk("to 300 0 0 40;", at(10, 1, 1), at(40, 3, 2), at(80, 4, 1), at(120, 4, 0), at(160, 4, 0), at(200, 4, 0),
            at(240, 4, 0), at(270, 3, -1), at(290, 2, -1), at(300, 1, -1), at(300, 0, -1), at(300, 0, 0));
    }

    private static void limitOfAHundred() {
        Desk.promise(7, "w is no more than LIMIT (100 at most)");
        // up to 100 by 1, 2, .. 10, .. 1, down again by as much: that is 1000, 100 and 900 behind it
        String fast = "axes 5000 5000 5000 500 9 9;jerk 1;to ";
        int[][] rows = {{1999, 41, 99, 0}, {2000, 40, 100, 2}, {2100, 41, 100, 3}, {2200, 42, 100, 4}};
        for (int[] row : rows) {
            PathRide ride = Desk.riding(fast + row[0] + " 0 0 5000;");
            Desk.due("till " + row[0], ride.till(), row[1]);
            Desk.due("run 0 of " + row[0], ride.run(0), row[2]);
            Desk.due("run 3 of " + row[0], ride.run(3), row[3]);
        }
        PathRide ride = Desk.riding(fast + "2200 0 0 5000;");
        int[] ups = {1, 3, 6, 10, 15, 21, 28, 36, 45, 55, 64, 72, 79, 85, 90, 94, 97, 99, 100, 100, 100, 100};
        for (int w : ups) {
            ride.ticks(1);
            Desk.due("w up", ride.count(5), w);
        }
        int[] downs = {99, 97, 94, 90, 85, 79, 72, 64, 55, 45, 36, 28, 21, 15, 10, 6, 3, 1, 0, 0};
        for (int w : downs) {
            ride.ticks(1);
            Desk.due("w down", ride.count(5), w);
        }
        Desk.due("s", ride.count(4), 2200);
        Desk.due("done", ride.till(), 0);
    }

    private static void fromFarAhead() {
        Desk.promise(7, "SAFE, if BRAKES from there on MAY, one behind another, till it is at REST");
        int[][] up = {at(10, 1, 1), at(40, 3, 2), at(90, 5, 2), at(150, 6, 1), at(210, 6, 0), at(260, 5, -1)};
        // over a corner of 1, at just 300 by 1, and by 1 from 300 on to rest
        walk("tolerance 0;to 300 0 0 1000;by 0 300 0 1000;", up[0], up[1], up[2], up[3], up[4], up[5], at(290, 3, -2),
            at(300, 1, -2), at(300, 0, -1), at(300, 0, 0), at(310, 1, 1), at(340, 3, 2), at(390, 5, 2), at(450, 6, 1),
            at(510, 6, 0), at(560, 5, -1), at(590, 3, -2), at(600, 1, -2), at(600, 0, -1), at(600, 0, 0));
        // on into a block of 2: at 300 it would be in it by 4, and ahead of it with one more
        walk("to 300 0 0 1000;by 100 0 0 20;", up[0], up[1], up[2], up[3], up[4], up[5], at(290, 3, -2), at(310, 2, -1),
            at(330, 2, 0), at(350, 2, 0), at(370, 2, 0), at(390, 2, 0), at(400, 1, -1), at(400, 0, -1), at(400, 0, 0));
        walk("to 301 0 0 1000;by 100 0 0 20;", up[0], up[1], up[2], up[3], up[4], up[5], at(300, 4, -1), at(320, 2, -2),
            at(330, 1, -1), at(340, 1, 0), at(360, 2, 1), at(380, 2, 0), at(390, 1, -1), at(400, 1, 0), at(400, 0, -1),
            at(400, 0, 0), at(401, 0, 0));
        // into a block of 2 that ends ahead of where the brakes would end
        walk("to 90 0 0 30;by 20 0 0 20;by 90 0 0 30;", at(10, 1, 1), at(30, 2, 1), at(50, 2, 0), at(70, 2, 0), at(90, 2, 0),
            at(110, 2, 0), at(140, 3, 1), at(170, 3, 0), at(190, 2, -1), at(200, 1, -1), at(200, 0, -1), at(200, 0, 0));
        walk("to 91 0 0 30;by 20 0 0 20;by 90 0 0 30;", at(10, 1, 1), at(30, 2, 1), at(60, 3, 1), at(90, 3, 0),
            at(110, 2, -1), at(130, 2, 0), at(150, 2, 0), at(170, 2, 0), at(190, 2, 0), at(200, 1, -1), at(200, 0, -1),
            at(200, 0, 0), at(201, 0, 0));
    }

    private static void limitOfTheBlockAhead() {
        Desk.promise(7, "LIMIT of any BLOCK from that of s ahead of it");
        String rest = "by 100 0 0 50;";
        int[][] slow = {at(10, 1, 1), at(20, 1, 0), at(30, 1, 0), at(40, 1, 0), at(50, 1, 0), at(60, 1, 0), at(70, 1, 0)};
        // at 70 it is in the next block, if the first one ends there: from there on by 2
        walk("to 70 0 0 10;" + rest, slow[0], slow[1], slow[2], slow[3], slow[4], slow[5], slow[6], at(90, 2, 1),
            at(110, 2, 0), at(130, 2, 0), at(150, 2, 0), at(160, 1, -1), at(170, 1, 0), at(170, 0, -1), at(170, 0, 0));
        walk("to 69 0 0 10;" + rest, slow[0], slow[1], slow[2], slow[3], slow[4], slow[5], slow[6], at(90, 2, 1),
            at(110, 2, 0), at(130, 2, 0), at(150, 2, 0), at(160, 1, -1), at(160, 0, -1), at(160, 0, 0), at(169, 0, 0));
        // one longer, and it goes from the slow one still
        walk("to 71 0 0 10;" + rest, slow[0], slow[1], slow[2], slow[3], slow[4], slow[5], slow[6], at(80, 1, 0),
            at(100, 2, 1), at(120, 2, 0), at(140, 2, 0), at(160, 2, 0), at(170, 1, -1), at(170, 0, -1), at(170, 0, 0),
            at(171, 0, 0));
    }

    private static void limitOfTheBlockBehind() {
        Desk.promise(7, "LIMIT of any BLOCK to that of s behind it");
        String rest = "by 30 0 0 10;";
        int[][] fast = {at(10, 1, 1), at(30, 2, 1), at(50, 2, 0)};
        // at 70 by 2 it would be in the slow block already
        walk("to 70 0 0 20;" + rest, fast[0], fast[1], fast[2], at(60, 1, -1), at(70, 1, 0), at(80, 1, 0), at(90, 1, 0),
            at(100, 1, 0), at(100, 0, -1), at(100, 0, 0));
        walk("to 69 0 0 20;" + rest, fast[0], fast[1], fast[2], at(60, 1, -1), at(70, 1, 0), at(80, 1, 0), at(90, 1, 0),
            at(90, 0, -1), at(90, 0, 0), at(99, 0, 0));
        walk("to 71 0 0 20;" + rest, fast[0], fast[1], fast[2], at(70, 2, 0), at(80, 1, -1), at(90, 1, 0), at(100, 1, 0),
            at(100, 0, -1), at(100, 0, 0), at(101, 0, 0));
    }

    private static void limitOfABlockBetween() {
        Desk.promise(7, "LIMIT of any BLOCK from that of s ahead of it to that of s behind it");
        // a block of 1 between two fast ones: it comes over it by 1, or by 2
        walk("to 60 0 0 100;by 1 0 0 10;by 39 0 0 100;", at(10, 1, 1), at(30, 2, 1), at(50, 2, 0), at(60, 1, -1),
            at(70, 1, 0), at(80, 1, 0), at(90, 1, 0), at(100, 1, 0), at(100, 0, -1), at(100, 0, 0));
        walk("to 60 0 0 100;by 5 0 0 20;by 100 0 0 100;", at(10, 1, 1), at(30, 2, 1), at(50, 2, 0), at(70, 2, 0),
            at(100, 3, 1), at(130, 3, 0), at(150, 2, -1), at(160, 1, -1), at(160, 0, -1), at(160, 0, 0), at(165, 0, 0));
    }

    private static void limitOfACorner() {
        Desk.promise(7, "w is no more than LIMIT of any CORNER between these");
        String rest = "by 0 30 0 20;";
        int[][] fast = {at(10, 1, 1), at(30, 2, 1), at(50, 2, 0)};
        // its limit is 1. Behind it, it goes by 2 again
        walk("tolerance 0;to 70 0 0 20;" + rest, fast[0], fast[1], fast[2], at(60, 1, -1), at(70, 1, 0), at(80, 1, 0),
            at(90, 1, 0), at(100, 1, 0), at(100, 0, -1), at(100, 0, 0));
        walk("tolerance 0;to 71 0 0 20;" + rest, fast[0], fast[1], fast[2], at(70, 2, 0), at(80, 1, -1), at(90, 1, 0),
            at(100, 1, 0), at(100, 0, -1), at(100, 0, 0), at(101, 0, 0));
        walk("tolerance 0;to 70 0 0 20;by 0 60 0 20;", fast[0], fast[1], fast[2], at(60, 1, -1), at(70, 1, 0),
            at(90, 2, 1), at(110, 2, 0), at(120, 1, -1), at(130, 1, 0), at(130, 0, -1), at(130, 0, 0));
        // its limit is 2: the root of 2 * 5 * 100 * 32768 / 46340 is 26, by 10
        walk("tolerance 2;to 60 0 0 100;by 0 60 0 100;", fast[0], fast[1], fast[2], at(70, 2, 0), at(90, 2, 0),
            at(110, 2, 0), at(120, 1, -1), at(120, 0, -1), at(120, 0, 0));
        // 1: the root of 2 * 2 * 100 * 32768 / 46340 is 16
        walk("tolerance 1;to 60 0 0 100;by 0 60 0 100;", fast[0], fast[1], fast[2], at(60, 1, -1), at(70, 1, 0),
            at(90, 2, 1), at(110, 2, 0), at(120, 1, -1), at(120, 0, -1), at(120, 0, 0));
    }

    private static void reach() {
        Desk.promise(7, "u is less REACH to REACH");
        String fast = " 9 9;to 700 0 0 1000;";
        walk("axes 2000 1 1 19 9 9;to 300 0 0 1000;", at(10, 1, 1), at(30, 2, 1), at(60, 3, 1), at(100, 4, 1),
            at(150, 5, 1), at(200, 5, 0), at(240, 4, -1), at(270, 3, -1), at(290, 2, -1), at(300, 1, -1),
            at(300, 0, -1), at(300, 0, 0));
        walk("axes 2000 1 1 29" + fast, at(10, 1, 1), at(40, 3, 2), at(90, 5, 2), at(160, 7, 2), at(250, 9, 2),
            at(350, 10, 1), at(450, 10, 0), at(540, 9, -1), at(610, 7, -2), at(660, 5, -2), at(690, 3, -2),
            at(700, 1, -2), at(700, 0, -1), at(700, 0, 0));
        walk("axes 2000 1 1 30" + fast, at(10, 1, 1), at(40, 3, 2), at(100, 6, 3), at(180, 8, 2), at(270, 9, 1),
            at(370, 10, 1), at(470, 10, 0), at(560, 9, -1), at(630, 7, -2), at(670, 4, -3), at(690, 2, -2),
            at(700, 1, -1), at(700, 0, -1), at(700, 0, 0));
        // 1, 2, .. 10 and 9, .. 1 is 100, the greatest limit there is: beyond 10 it does not come
        int[][] greatest = {{8, 8}, {9, 9}, {10, 10}, {11, 10}, {12, 10}, {13, 10}};
        for (int[] row : greatest) {
            greatest("axes 5000 5000 5000 " + row[0] + " 9 9;jerk 1;to 5000 0 0 5000;", row[1]);
        }
    }

    private static void greatest(String text, int due) {
        PathRide ride = Desk.riding(text);
        int more = 0;
        int less = 0;
        for (int n = 0; n < 100 && ride.till() > 0; n++) {
            ride.ticks(1);
            more = Math.max(more, ride.count(6));
            less = Math.min(less, ride.count(6));
        }
        Desk.due("the greatest u of " + text, more, due);
        Desk.due("the least u of " + text, less, -due);
    }

    private static void holds(String text, int ticks, int[]... rows) {
        PathRide ride = Desk.riding(text);
        ride.ticks(ticks);
        Desk.due(text + ": brakes 0", ride.brakes(0), rows.length);
        Desk.due(text + ": brakes 1", ride.brakes(1), rows[rows.length - 1][0] - ride.count(4));
        ride.hold();
        for (int[] row : rows) {
            Desk.due(text + ": held", ride.ticks(1), row[0]);
            stands(text + ": held", ride, row[0], row[1], row[2]);
        }
        int all = rows[rows.length - 1][0];
        Desk.due(text + ": at rest", ride.ticks(60), all);
        stands(text + ": at rest", ride, all, 0, 0);
    }

    private static void brakesOfAHeldOne() {
        Desk.promise(7, "If it is HELD: a BRAKE, by the least j by which u is less REACH at least, w 0 at least, 2 * w u * (u + 1) at least");
        String far = "to 9000 0 0 5000;";
        holds("axes 5000 1 1 10 9 9;" + far, 6, at(270, 6, 0), at(320, 5, -1), at(360, 4, -1), at(390, 3, -1),
            at(410, 2, -1), at(420, 1, -1), at(420, 0, -1), at(420, 0, 0));
        holds("axes 5000 1 1 20 9 9;" + far, 4, at(240, 8, 1), at(320, 8, 0), at(390, 7, -1), at(440, 5, -2),
            at(470, 3, -2), at(480, 1, -2), at(480, 0, -1), at(480, 0, 0));
        // 2 * 3 is just -3 * -2
        holds("axes 5000 1 1 30 9 9;" + far, 4, at(300, 11, 2), at(420, 12, 1), at(540, 12, 0), at(650, 11, -1),
            at(740, 9, -2), at(800, 6, -3), at(830, 3, -3), at(840, 1, -2), at(840, 0, -1), at(840, 0, 0));
        holds("axes 5000 1 1 60 9 9;" + far, 1, at(20, 1, 0), at(20, 0, -1), at(20, 0, 0));
        holds("axes 5000 1 1 60 9 9;" + far, 2, at(80, 4, 1), at(120, 4, 0), at(150, 3, -1), at(160, 1, -2),
            at(160, 0, -1), at(160, 0, 0));
        // a limit that has become less bounds no brake
        PathRide ride = Desk.riding("jerk 5;to 1000 0 0 1000;");
        ride.ticks(3);
        ride.give(1);
        ride.hold();
        int[][] rows = {{90, 8, 2}, {135, 9, 1}, {180, 9, 0}, {220, 8, -1}, {250, 6, -2}, {265, 3, -3}, {270, 1, -2},
            {270, 0, -1}, {270, 0, 0}, {270, 0, 0}};
        for (int[] row : rows) {
            ride.ticks(1);
            stands("held, by a limit of 2", ride, row[0], row[1], row[2]);
        }
    }

    private static void heldAtRest() {
        Desk.promise(7, "If it is HELD: at REST nothing (a TICK is an act, also if nothing comes of it)");
        PathRide ride = Desk.riding("to 19 0 0 100;");
        ride.hold();
        Desk.due("held it does not creep", ride.ticks(1), 0);
        Desk.due("ticks 59", ride.ticks(59), 0);
        Desk.due("ticks that were", ride.count(15), 60);
        Desk.due("acts", ride.count(13), 20);
        ride.letGo();
        Desk.due("let go it creeps", ride.ticks(1), 19);
        ride = Desk.riding("to 20 0 0 100;");
        ride.hold();
        Desk.due("held it does not begin", ride.ticks(1), 0);
        stands("held", ride, 0, 0, 0);
        ride.letGo();
        Desk.due("let go it begins", ride.ticks(1), 10);
        // let go on the way: on from where it is
        ride.hold();
        ride.ticks(1);
        stands("held", ride, 20, 1, 0);
        ride.letGo();
        Desk.due("on", ride.ticks(60), 20);
        Desk.due("done", ride.till(), 0);
    }

    private static void lessGiven() {
        Desk.promise(7, "by the greatest j by which it MAY and is SAFE behind it; by none (GIVEN has become less): a BRAKE");
        // at 60 by 3, u 1
        int[][] given = {{100, 90, 3, 0}, {67, 90, 3, 0}, {66, 90, 3, 0}, {34, 90, 3, 0}, {33, 90, 3, 0}, {1, 90, 3, 0},
            {133, 90, 3, 0}, {134, 100, 4, 1}, {199, 100, 4, 1}, {200, 110, 5, 2}};
        for (int[] row : given) {
            PathRide ride = Desk.riding("to 500 0 0 30;");
            ride.ticks(3);
            stands("at first", ride, 60, 3, 1);
            ride.give(row[0]);
            ride.ticks(1);
            stands("given " + row[0], ride, row[1], row[2], row[3]);
        }
        // at 90 by 3, u 0: a limit of 3, of 2, of 1
        int[][] on = {{100, 120, 3, 0}, {99, 110, 2, -1}, {67, 110, 2, -1}, {66, 110, 2, -1}, {1, 110, 2, -1}};
        int[][] further = {{100, 150, 3, 0}, {99, 130, 2, 0}, {67, 130, 2, 0}, {66, 120, 1, -1}, {1, 120, 1, -1}};
        for (int i = 0; i < on.length; i++) {
            PathRide ride = Desk.riding("to 500 0 0 30;");
            ride.ticks(4);
            stands("at first", ride, 90, 3, 0);
            ride.give(on[i][0]);
            ride.ticks(1);
            stands("given " + on[i][0], ride, on[i][1], on[i][2], on[i][3]);
            ride.ticks(1);
            stands("given " + further[i][0], ride, further[i][1], further[i][2], further[i][3]);
        }
        // by 6 with u 3 down to a limit of 2: brakes, till it is 2 at most; then by the greatest j again
        PathRide ride = Desk.riding("jerk 5;to 1000 0 0 1000;");
        ride.ticks(3);
        ride.give(1);
        int[][] goes = {{90, 8, 2}, {135, 9, 1}, {180, 9, 0}, {220, 8, -1}, {250, 6, -2}, {265, 3, -3},
            {270, 1, -2}, {270, 0, -1}, {270, 0, 0}, {275, 1, 1}, {285, 2, 1}, {295, 2, 0}};
        for (int[] row : goes) {
            ride.ticks(1);
            stands("down to 2", ride, row[0], row[1], row[2]);
        }
    }

    // ---- promise 14 ----

    private static void aheadWithoutThese() {
        Desk.promise(14, "Integer.MIN_VALUE without these (n 0 to 300)");
        for (int what = -1; what <= 4; what++) {
            int asked = what;
            for (int n : new int[] {-1, -2, 301, 302, 3000, Integer.MAX_VALUE, Integer.MIN_VALUE}) {
                Twins.refusedEverywhere("ahead " + n + " " + what, r -> r.ahead(n, asked), Desk.MIN);
            }
        }
        for (int what : new int[] {-1, 4, Integer.MAX_VALUE, Integer.MIN_VALUE}) {
            for (int n : new int[] {0, 1, 300}) {
                Twins.refusedEverywhere("ahead " + n + " " + what, r -> r.ahead(n, what), Desk.MIN);
            }
        }
        Desk.promise(14, "3: the BLOCK of s (NONE without BLOCKS)");
        for (int n : new int[] {0, 1, 299, 300}) {
            Desk.due("ahead " + n + " 0", new PathRide().ahead(n, 0), 0);
            Desk.due("ahead " + n + " 1", new PathRide().ahead(n, 1), 0);
            Desk.due("ahead " + n + " 2", new PathRide().ahead(n, 2), 0);
            Desk.due("ahead " + n + " 3", new PathRide().ahead(n, 3), -1);
        }
    }

    private static void aheadUpToItsEnd() {
        Desk.promise(14, "behind n (0 to 300) TICKS");
        PathRide ride = Desk.riding("jerk 1;to 1000 0 0 1;");
        int[][] rows = {{0, 0, 0, 0}, {1, 1, 1, 1}, {2, 2, 1, 0}, {299, 299, 1, 0}, {300, 300, 1, 0}};
        for (int[] row : rows) {
            for (int what = 0; what < 3; what++) {
                Desk.due("ahead " + row[0] + " " + what, ride.ahead(row[0], what), row[1 + what]);
            }
        }
        Desk.due("nothing came of it", ride.count(15), 0);
        Desk.promise(14, "2: u (it may be below 0)");
        ride = Desk.riding("to 60 0 0 100;");
        Desk.due("ahead 3 2", ride.ahead(3, 2), 0);
        Desk.due("ahead 4 2", ride.ahead(4, 2), -1);
        Desk.due("ahead 5 2", ride.ahead(5, 2), -1);
        Desk.due("ahead 6 2, done", ride.ahead(6, 2), 0);
        Desk.due("ahead 7 0, done", ride.ahead(7, 0), 60);
        Desk.due("ahead 300 0, done", ride.ahead(300, 0), 60);
    }

    private static void aheadOfAHeldOne() {
        Desk.promise(14, "AHEAD: how it is behind n TICKS more, if nothing is done");
        PathRide ride = Desk.riding("to 100 0 0 1000;");
        ride.ticks(1);
        ride.hold();
        int[][] rows = {{10, 1, 1}, {20, 1, 0}, {20, 0, -1}, {20, 0, 0}, {20, 0, 0}};
        for (int n = 0; n < rows.length; n++) {
            for (int what = 0; what < 3; what++) {
                Desk.due("ahead " + n + " " + what, ride.ahead(n, what), rows[n][what]);
            }
        }
        Desk.due("ahead 300 0", ride.ahead(300, 0), 20);
    }

    private static void aheadBlocks() {
        Desk.promise(14, "3: the BLOCK of s");
        // at 20 it is in the next block, if the first one ends there
        int[][] ends = {{19, 0, 1}, {20, 0, 1}, {21, 0, 0}};
        for (int[] end : ends) {
            PathRide ride = Desk.riding("to " + end[0] + " 0 0 10;by 0 40 0 10;");
            Desk.due("at 20", ride.ahead(2, 0), 20);
            Desk.due("ahead 1 3 of " + end[0], ride.ahead(1, 3), end[1]);
            Desk.due("ahead 2 3 of " + end[0], ride.ahead(2, 3), end[2]);
            ride.ticks(2);
            Desk.due("the block of s", ride.count(7), end[2]);
            Desk.due("the last block at the end", ride.ahead(300, 3), 1);
        }
        // the first block is 1 long
        PathRide ride = Desk.riding("to 1 0 0 10;by 0 40 0 10;");
        Desk.due("the block of s at the beginning", ride.count(7), 0);
        Desk.due("ahead 0 3", ride.ahead(0, 3), 0);
        Desk.due("ahead 1 3", ride.ahead(1, 3), 1);
    }
}
