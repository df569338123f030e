/** The edges of promise 4, with Term I: ends too far off, which fault is told, what is told again, what stays. */
public final class FaultEdgesTest {
    public static void main(String[] args) {
        endsBeyond();
        chordsBeyond();
        againBeyond();
        fiveAndFour();
        firstAlongTheText();
        again();
        nowhere();
        whatAProgramEnds();
        settingsAnew();
        oneProgramBehindAnother();
        whatAFaultLeaves();
        Desk.finish("FaultEdgesTest");
    }

    private static String at(int axis, int n) {
        return (axis == 0 ? n : 0) + " " + (axis == 1 ? n : 0) + " " + (axis == 2 ? n : 0) + " 5;";
    }

    private static void endsBeyond() {
        Desk.promise(4, "5 an end of a BLOCK beyond 100000 either way (where the LINE begins)");
        for (int axis = 0; axis < 3; axis++) {
            for (int sign = -1; sign <= 1; sign += 2) {
                String near = "to " + at(axis, sign * 99999);
                Desk.due("the end", Faults.right(near + "by " + at(axis, sign), 2).block(1, axis), sign * 100000);
                Faults.fault(near + "^by " + at(axis, sign * 2), 5);
                Faults.fault(near + "by " + at(axis, sign) + " \n^by " + at(axis, sign), 5);
                Faults.right(near + "by " + at(axis, sign) + "by " + at(axis, -sign), 3);
                Faults.fault(near + "^by " + at(axis, sign * 100000), 5);
                Faults.right(near + "by " + at(axis, sign * -100000), 2);
            }
        }
        Desk.promise(4, "4 and 5 are told when the LINE is right up to its ;");
        Faults.fault("to 100000 0 0 5;by 1 0 0 5^", 1);
        Faults.fault("to 100000 0 0 5;by 1 0 0 5 ^6;", 1);
        Faults.fault("to 100000 0 0 5;by 1 0 0 ^5001;", 2);
        Faults.fault("to 100000 0 0 5;by 1 0 ^;", 1);
        // what comes behind the line is later along the text
        Faults.fault("to 100000 0 0 5;^by 1 0 0 5;x", 5);
        Faults.fault("to 100000 0 0 5;^by 1 0 0 5;to 0 0 0 0;", 5);
    }

    private static void chordsBeyond() {
        Desk.promise(4, "5 an end of a BLOCK beyond 100000 either way (of a turn)");
        // half a circle whose middle is 10 further off than both ends
        String[][] halves = {
            {"to 99990 0 0 5;", "to 99991 0 0 5;", "turn 0 10 2 0 5;"},
            {"to -99990 0 0 5;", "to -99991 0 0 5;", "turn 0 10 -2 0 5;"},
            {"to 0 99990 0 5;", "to 0 99991 0 5;", "turn 10 0 -2 0 5;"},
            {"to 0 -99990 0 5;", "to 0 -99991 0 5;", "turn 10 0 2 0 5;"}};
        for (String[] half : halves) {
            Faults.right(half[0] + half[2], 3);
            Faults.fault(half[1] + "^" + half[2], 5);
        }
        Faults.right("to 0 0 99998 5;turn 0 10 4 2 5;", 5);
        Faults.fault("to 0 0 99998 5;^turn 0 10 4 3 5;", 5);
        Faults.right("to 0 0 -99998 5;turn 0 10 4 -2 5;", 5);
        Faults.fault("to 0 0 -99998 5;^turn 0 10 4 -3 5;", 5);
        // the centre may lie beyond
        Faults.right("to 100000 0 0 5;turn 10 10 -1 0 5;", 2);
        Faults.fault("to 100000 0 0 5;^turn 10 10 1 0 5;", 5);
    }

    private static void againBeyond() {
        Desk.promise(4, "of again by the first of its MOVES for which it is so");
        Faults.right("mark a;by 25000 0 0 5;again a 3;", 4);
        Faults.fault("mark a;by 25001 0 0 5;^again a 3;", 5);
        Faults.right("mark a;by 33333 0 0 5;again a 2;", 3);
        Faults.fault("mark a;by 33334 0 0 5;^again a 2;", 5);
        Faults.right("mark a;by 50000 0 0 5;again a 1;", 2);
        Faults.fault("mark a;by 50001 0 0 5;\n^again a 1;", 5);
        Faults.fault("mark a;by 50001 0 0 5;by -1 0 0 5;^again a 1;", 5);
        Faults.right("mark a;by 50001 0 0 5;by -2 0 0 5;again a 1;", 4);
    }

    private static void fiveAndFour() {
        Desk.promise(4, "of again by the first of its MOVES for which it is so; of one MOVE 5");
        String nine = Desk.repeat("by 1 0 0 1;", 9);
        // 40 moves at 99996: a by 1, told again, is the 41st
        String forty = "mark a;" + nine + "by 24990 0 0 1;again a 3;";
        Desk.due("moves", Faults.right(forty, 40).count(1), 40);
        Desk.due("X", Faults.right(forty, 40).block(39, 0), 99996);
        Faults.fault(forty + "^by 4 0 0 1;", 4);
        Faults.fault(forty + "^by 5 0 0 1;", 5);
        Faults.fault(forty + "^to 0 0 0 1;", 4);
        Faults.fault(forty + "^turn 2 0 4 5 1;", 4);
        Faults.fault(forty + "^turn 3 0 4 5 1;", 5);
        // the 41st is within, the one behind it is not, and the other way round
        Faults.fault("mark a;" + nine + "by 24990 0 0 1;again a 2;" + nine + "by 24990 0 0 1;mark b;^again a 1;", 4);
        Faults.fault("by 30000 0 0 1;mark a;by 50000 0 0 1;" + nine + nine + nine + "^again a 1;", 5);
        // a 65th block and an end beyond, of one turn
        String full = "tolerance 0;to 99000 0 0 1;turn 0 300 -4 0 1;turn 0 300 -3 0 1;by 1 0 0 1;";
        Desk.due("blocks", Faults.right(full, 58).count(0), 58);
        Faults.fault(full + "^turn 0 300 -1 0 1;", 4);
        Faults.fault(full + "^turn 0 2000 1 0 1;", 5);
    }

    private static void firstAlongTheText() {
        Desk.promise(4, "FAULTS, the first along the text");
        Faults.fault("to 1 2 3 ^0;to x", 2);
        Faults.fault("to 1 2 3 4^.5;jerk 5;", 1);
        Faults.fault("jerk ^0;jerk 5;", 2);
        Faults.fault("jerk 5;^jerk 5;x", 3);
        Faults.fault("again ^a 0;", 3);
        Faults.fault("axes ^0 0 0 0 0 0;", 2);
        Faults.fault("axes 1 1 1 1 1 ^501 0;", 2);
        Faults.fault("turn 0 ^0 0 0 0;", 2);
        Faults.fault("turn ^100001 0 0 0 0;", 2);
        Faults.fault("^a;b;c", 1);
        Desk.promise(4, "of one place the least");
        // a number where none can stand is not fault 2, though it is too great
        Faults.fault("to 1 2 3 4 ^100001;", 1);
        Faults.fault("mark ^100001;", 1);
        Faults.fault("^100001;", 1);
        // a word that cannot be a name is not fault 3, though it was not marked
        Faults.fault("again ^to 1;", 1);
        Faults.fault("again ^abcdefgh 1;", 1);
    }

    private static void again() {
        Desk.promise(4, "the MOVES behind that mark up to here (those told again, too) come so many times more");
        String two = "mark a;by 1 0 0 5;by 0 1 0 5;";
        int[] moves = {4, 6, 8};
        for (int n = 1; n <= 3; n++) {
            PathRide ride = Faults.right(two + "again a " + n + ";", moves[n - 1]);
            Desk.due("X behind them", ride.block(moves[n - 1] - 1, 0), 1 + n);
            Desk.due("Y behind them", ride.block(moves[n - 1] - 1, 1), 1 + n);
        }
        Faults.right(two + "again a 1;again a 1;", 8);
        Faults.right(two + "again a 2;again a 1;again a 2;", 36);
        Faults.right(two + "mark b;again a 1;again b 1;", 6);
        Faults.right(two + "mark b;again b 3;", 2);
        Faults.right("by 1 0 0 5;" + two + "again a 1;", 5);
        // the moves ahead of the mark do not come again; a mark behind the last move has none
        PathRide ride = Faults.right("by 7 0 0 5;" + two + "again a 1;", 5);
        Desk.due("X", ride.block(4, 0), 9);
        // to the same place again: a move, but no block
        ride = Faults.right("mark a;to 5 5 5 5;again a 3;", 1);
        Desk.due("moves", ride.count(1), 4);
        ride = Faults.right("mark a;to 5 5 5 5;to 0 0 0 6;again a 1;", 4);
        int[] of = {0, 1, 2, 3};
        int[] feeds = {5, 6, 5, 6};
        for (int k = 0; k < 4; k++) {
            Desk.due("move", ride.block(k, 9), of[k]);
            Desk.due("feed", ride.block(k, 4), feeds[k]);
        }
        // a turn goes from where one is then
        ride = Faults.right("mark a;turn 0 10 1 3 5;again a 1;", 2);
        Desk.due("X", ride.block(1, 0), 20);
        Desk.due("Y", ride.block(1, 1), 20);
        Desk.due("Z", ride.block(1, 2), 6);
    }

    private static void nowhere() {
        Desk.promise(4, "BLOCKS: the MOVES, in their order (all that goes nowhere is none)");
        Faults.right("to 0 0 0 5;by 0 0 0 5;", 0);
        Faults.right("to 0 0 1 5;to 0 0 1 5;by 0 0 0 5;", 1);
        Faults.right("to 1 0 0 5;to 1 0 0 6;to 1 1 0 7;to 1 1 1 8;", 3);
        PathRide ride = Faults.right("by 0 0 0 1;to -1 0 0 2;to -1 0 0 3;to 0 0 0 4;", 2);
        Desk.due("its move", ride.block(0, 9), 1);
        Desk.due("its move", ride.block(1, 9), 3);
        Desk.due("its feed", ride.block(1, 4), 4);
        Desk.promise(4, "to: the first begins at 0, 0, 0");
        Desk.due("length", Faults.right("to 3 4 0 1;", 1).block(0, 3), 5);
        Desk.due("where", Faults.right("to 3 4 0 1;", 1).where(0), 0);
    }

    private static PathRide behind(PathRide ride, String text) {
        Desk.due("program of: " + text, Desk.tell(ride, text) >= 0, true);
        return ride;
    }

    private static PathRide keeping(PathRide ride) {
        ride.keep(0);
        return ride;
    }

    private static void whatAProgramEnds() {
        Desk.promise(4, "in place of the one there was (REST, s 0, GIVEN 100, not HELD, nothing can be UNDONE)");
        // the legs that were kept stay; else all is as on a new desk
        PathRide legs = keeping(behind(new PathRide(), "to 300 0 0 900;to 300 400 0 500;by 0 0 90 700;"));
        for (String text : new String[] {"", "to 30 0 0 100;", "jerk 50;mark b;turn 0 5 2 0 9;"}) {
            Twins.alike("told on one on its way: " + text, behind(Twins.going(), text), behind(legsKept(), text));
            Twins.alike("told on a held one: " + text, behind(Twins.held(), text), behind(legsKept(), text));
            Twins.alike("told on one with twenty acts: " + text, behind(Twins.full(), text), behind(legsKept(), text));
        }
        Desk.due("legs", legs.common(0), 3);
        PathRide ride = Twins.going();
        ride.hold();
        Desk.due("program of its tape", ride.program(), 1);
        // 5 6 7 is 10 long; Z bounds the push to 142, by 10: the reach is 12 at most
        int[] counts = {1, 1, 0, 10, 0, 0, 0, 0, 100, 0, 12, 10, 50, 0, 0, 0};
        for (int what = 0; what < counts.length; what++) {
            Desk.due("count " + what, ride.count(what), counts[what]);
        }
        Desk.due("undo", ride.undo(), -2);
        Desk.due("back 0", ride.back(0), -1);
        Desk.due("back 2", ride.back(2), -1);
        Desk.due("letGo", ride.letGo(), false);
    }

    private static PathRide legsKept() {
        return keeping(Desk.riding("to 300 0 0 900;to 300 400 0 500;by 0 0 90 700;"));
    }

    private static void settingsAnew() {
        Desk.promise(4, "each once (in each PROGRAM)");
        String[] lines = {"axes 9 9 9 9 9 9;", "jerk 9;", "tolerance 9;", "mark a;"};
        for (String line : lines) {
            PathRide ride = Faults.right(line, 0);
            Desk.due("the same told again", Desk.tell(ride, line), 0);
            Desk.due("a fault behind it", Desk.tell(ride, line + "x"), -2 - (8 * line.length() + 1));
            Desk.due("the same behind a fault", Desk.tell(ride, line), 0);
        }
        PathRide ride = Faults.right("mark a;mark b;", 0);
        Desk.due("again without a mark", Desk.tell(ride, "again a 1;"), -2 - (8 * 6 + 3));
        Desk.due("its marks", ride.count(2), 2);
    }

    /** What was told, asked and gone before leaves nothing to the program that is told in its place. */
    private static void oneProgramBehindAnother() {
        Desk.promise(4, "tells the PROGRAM in place of the one there was");
        String[] texts = {"", "to 7 0 0 90;",
            "to 100 0 0 5;to 100 100 0 5;to 0 100 0 5;to 0 0 0 5;to 100 0 0 5;to 100 0 50 5;to 0 0 50 5;",
            "axes 5000 5000 5000 20 30 40;to 9000 0 0 5000;to 9000 3000 0 5000;",
            "axes 3000 3000 3000 500 500 500;jerk 2;tolerance 600;to 4000 0 0 5000;by 0 4000 100 5000;by 7 0 0 3;",
            "jerk 50;tolerance 0;mark a;turn 0 500 3 8 900;by 1 2 3 4;again a 1;",
            "tolerance 2000;mark a;to 9 0 0 5;to 0 0 0 5;again a 3;again a 3;"};
        for (String first : texts) {
            for (String next : texts) {
                PathRide ride = Desk.riding(first);
                useUp(ride);
                Desk.due("program of " + next, Desk.tell(ride, next), Desk.riding(next).count(0));
                Twins.alike(next + " told behind " + first, ride, Desk.riding(next));
                // once more behind both, with a fault between
                ride = Desk.riding(first);
                useUp(ride);
                Desk.tell(ride, next);
                Desk.due("a fault behind " + next, Desk.tell(ride, next + "to") < -1, true);
                useUp(ride);
                Desk.due("program of " + first, Desk.tell(ride, first), Desk.riding(first).count(0));
                Twins.alike(first + " told behind " + next, ride, Desk.riding(first));
            }
        }
    }

    private static void useUp(PathRide ride) {
        for (int block = 0; block < Math.min(6, ride.count(0)); block++) {
            ride.block(block, 8);
        }
        ride.run(0);
        ride.tried(1, 1);
        ride.tried(1, 50);
        ride.slowest(3000);
        ride.ticks(9);
        ride.give(180);
        ride.ticks(9);
        ride.till();
    }

    private static void whatAFaultLeaves() {
        Desk.promise(4, "-2 - its FAULT, and but for the TAPE nothing happens");
        // all was right up to the last byte
        String text = "axes 9 9 9 9 9 9;jerk 9;tolerance 8;mark b;mark c;to 5 5 5 5;turn 9 9 4 0 9;again b 1;to 1 2 3 4";
        Faults.fault(text + "^", 1);
        PathRide[] desks = {Twins.fresh(), Twins.held(), Twins.done(), Twins.full()};
        PathRide[] twins = {Twins.fresh(), Twins.held(), Twins.done(), Twins.full()};
        for (int i = 0; i < desks.length; i++) {
            Desk.due("a fault", Desk.tell(desks[i], text), -2 - (8 * text.length() + 1));
            Desk.due("the TAPE is empty then", desks[i].count(14), 0);
            twins[i].end(0);
            Twins.alike("behind a fault, desk " + i, desks[i], twins[i]);
        }
        PathRide ride = new PathRide();
        Desk.due("a fault", Desk.tell(ride, "to"), -2 - (8 * 2 + 1));
        Desk.due("another", Desk.tell(ride, "mark a"), -2 - (8 * 6 + 1));
        Desk.due("what is right behind them", Desk.tell(ride, "mark a;to 1 2 3 4;"), 1);
        Desk.due("and another fault", Desk.tell(ride, "again a 1;"), -2 - (8 * 6 + 3));
        Desk.due("X", ride.block(0, 0), 1);
    }
}
