/** Promises 1 to 4 with Term I: a new object, the tape, programs and their faults. */
public final class ProgramTest {
    public static void main(String[] args) {
        newObject();
        feed();
        end();
        rightPrograms();
        faultsOfTokens();
        faultsOfNumbers();
        faultsOfNames();
        faultsOfSettings();
        faultsOfMeasure();
        faultsOfPlaces();
        moves();
        again();
        turns();
        whatAFaultLeaves();
        whatAProgramEnds();
        settingsAnew();
        Desk.finish("ProgramTest");
    }

    private static void fault(String text, int place, int kind) {
        Desk.due("program of: " + text, Desk.tell(new PathRide(), text), -2 - (8 * place + kind));
    }

    private static void right(String text, int blocks) {
        Desk.due("program of: " + text, Desk.tell(new PathRide(), text), blocks);
    }

    private static void ends(PathRide ride, int block, int x, int y, int z) {
        Desk.due("X of " + block, ride.block(block, 0), x);
        Desk.due("Y of " + block, ride.block(block, 1), y);
        Desk.due("Z of " + block, ride.block(block, 2), z);
    }

    private static void newObject() {
        PathRide ride = new PathRide();
        int[] counts = {0, 0, 0, 0, 0, 0, 0, -1, 100, 0, 12, 10, 50, 0, 0, 0};
        for (int what = 0; what < counts.length; what++) {
            Desk.due("count " + what + " of a new object", ride.count(what), counts[what]);
        }
        Desk.due("spots", ride.spots(), 0);
        Desk.due("till", ride.till(), 0);
        Desk.due("common, never kept", ride.common(0), -2);
        Desk.due("back, no image", ride.back(0), -1);
    }

    private static void feed() {
        PathRide ride = new PathRide();
        for (int n = 20; n <= 400; n += 20) {
            Desk.due("feed", ride.feed(0x20202020, 0x0a0a0a0a, 0x200a200a, 0x20202020, 0x20202020), n);
        }
        Desk.due("feed of a full tape", ride.feed(0, 0, 0, 0, 0), -1);
        Desk.due("bytes", ride.count(14), 400);
        ride.end(381);
        Desk.due("feed where 19 are free", ride.feed(0, 0, 0, 0, 0), -1);
        Desk.due("bytes", ride.count(14), 381);
        ride.end(380);
        // the twenty new bytes are the last ones: a number stands where a line should begin
        Desk.due("feed where 20 are free", ride.feed(0x20202020, 0x20202020, 0x20202020, 0x20202020, 0x20202039), 400);
        Desk.due("the last byte", ride.program(), -2 - (8 * 399 + 1));
        // "to 7 8 9 10 ;" and blanks, the highest byte of each number first
        ride.feed(0x746f2037, 0x20382039, 0x20313020, 0x3b202020, 0x20202020);
        Desk.due("program", ride.program(), 1);
        ends(ride, 0, 7, 8, 9);
        Desk.due("feed of the block", ride.block(0, 4), 10);
        // a byte above 127 is one, too
        ride.feed(0x20202020, 0xff202020, 0, 0, 0);
        Desk.due("program", ride.program(), -2 - (8 * 4 + 1));
    }

    private static void end() {
        PathRide ride = new PathRide();
        Desk.due("end 0 of an empty tape", ride.end(0), 0);
        Desk.due("end 1 of an empty tape", ride.end(1), -1);
        ride.feed(0x746f2037, 0x20382039, 0x20313020, 0x3b202020, 0x20202020);
        Desk.due("end -1", ride.end(-1), -1);
        Desk.due("end 21", ride.end(21), -1);
        Desk.due("end of the least", ride.end(Integer.MIN_VALUE), -1);
        Desk.due("bytes", ride.count(14), 20);
        Desk.due("end 20", ride.end(20), 20);
        Desk.due("end 12", ride.end(12), 12);
        Desk.due("end 13, gone", ride.end(13), -1);
        Desk.due("bytes", ride.count(14), 12);
        Desk.due("the stop is gone", ride.program(), -2 - (8 * 12 + 1));
        Desk.due("the tape is empty", ride.count(14), 0);
    }

    private static void rightPrograms() {
        right("", 0);
        right(" \n  ", 0);
        right("to 0 0 0 1;", 0);
        right("to1 2 3 4;", 1);
        right("to-1-2-3 4;by- 1\n- 2 -3 4;", 2);
        right("to 0001 000000000000002 3 4;", 1);
        right("axes 5000 5000 5000 500 500 500;jerk 50;tolerance 2000;", 0);
        right("tolerance 0;jerk 1;axes 1 1 1 1 1 1;", 0);
        right("to 100000 -100000 -0 5000;", 1);
        right("mark a;", 0);
        right("mark marks;mark abcdefg;again marks 1;", 0);
        right("mark zaz;mark az;mark za;again zaz 1;", 0);
        right("turn 0 5 -4 -100000 5000;", 4);
    }

    private static void faultsOfTokens() {
        fault(";", 0, 1);
        fault("  ;", 2, 1);
        fault("go 1 2 3 4;", 0, 1);
        fault("tO 1 2 3 4;", 0, 1);
        fault("to 1 2 O3 4;", 7, 1);
        // the signs right beside letters, digits, blanks
        for (char sign : new char[] {'`', '{', '/', ':', '!', 31, 9, 11, ',', '.', '<', 0, 255}) {
            fault("to 1" + sign + "2 3 4;", 4, 1);
        }
        fault("to 1 2 3;", 8, 1);
        fault("to 1 2 3 4 5;", 11, 1);
        fault("to 1 2 3 4", 10, 1);
        fault("to 1 2 3 4  ", 12, 1);
        fault("to 1 2 - - 3 4;", 9, 1);
        fault("to 1 2 x 4;", 7, 1);
        fault("to 1 2 3 -4;", 9, 1);
        fault("to 1 2\t3 4;", 6, 1);
        fault("to 1 2.3 4;", 6, 1);
        fault("to", 2, 1);
        fault("to 1 2 3 4;5", 11, 1);
        fault("jerk -5;", 5, 1);
        fault("mark ;", 5, 1);
        fault("mark 5;", 5, 1);
        fault("mark a b;", 7, 1);
        fault("again", 5, 1);
        fault("mark a;again a;", 14, 1);
        fault("mark a;again a -1;", 15, 1);
        fault("turn 1 2 x 4 5;", 9, 1);
        fault("top 1 2 3 4;", 0, 1);
    }

    private static void faultsOfNumbers() {
        fault("to 100001 0 0 5;", 3, 2);
        fault("to - 100001 0 0 5;", 5, 2);
        fault("to 0 0 99999999999999999999 5;", 7, 2);
        fault("to 4294967297 0 0 5;", 3, 2);
        fault("to 1 2 3 0;", 9, 2);
        fault("to 1 2 3 5001;", 9, 2);
        fault("by 1 2 3 5001;", 9, 2);
        fault("jerk 0;", 5, 2);
        fault("jerk 51;", 5, 2);
        fault("tolerance 2001;", 10, 2);
        fault("axes 5001 1 1 1 1 1;", 5, 2);
        fault("axes 1 1 5000 501 1 1;", 14, 2);
        fault("axes 1 1 0 1 1 1;", 9, 2);
        fault("axes 1 1 1 1 1 0;", 15, 2);
        fault("turn 0 0 1 0 5;", 7, 2);
        fault("turn -0 - 0 1 0 5;", 10, 2);
        fault("turn 0 100001 1 0 5;", 7, 2);
        fault("turn 1 0 0 0 5;", 9, 2);
        fault("turn 1 0 - 5 0 5;", 11, 2);
        fault("turn 1 0 1 100001 5;", 11, 2);
        fault("mark a;again a 0;", 15, 2);
        fault("mark a;again a 4;", 15, 2);
        // the first along the text, whatever comes behind it
        fault("to 1 2 3 0 x", 9, 2);
    }

    private static void faultsOfNames() {
        fault("mark abcdefgh;", 5, 1);
        for (String word : new String[] {"axes", "jerk", "to", "by", "turn", "mark", "again"}) {
            fault("mark " + word + ";", 5, 1);
        }
        fault("mark tolerance;", 5, 1);
        fault("mark a;again to 1;", 13, 1);
        fault("mark a;mark a;", 12, 3);
        fault("again a 1;", 6, 3);
        fault("mark a;again b 1;mark b;", 13, 3);
        fault("mark ab;again a 1;", 14, 3);
        fault("mark a;again ab 1;", 13, 3);
        fault("mark a;mark a x", 12, 3);
    }

    private static void faultsOfSettings() {
        fault("jerk 5;jerk 5;", 7, 3);
        fault("tolerance 5;axes 1 1 1 1 1 1;tolerance 5;", 29, 3);
        fault("axes 1 1 1 1 1 1;axes", 17, 3);
        fault("mark a;jerk 5;", 7, 1);
        fault("jerk 5;to 1 1 1 1;jerk 5;", 18, 1);
        fault("by 0 0 0 1;tolerance 5;", 11, 1);
    }

    private static void faultsOfMeasure() {
        String ten = "by 1 0 0 1;";
        right("mark a;" + ten + "again a 3;again a 3;again a 1;", 32);
        String forty = "mark a;" + Desk.repeat(ten, 10) + "again a 3;";
        right(forty, 40);
        fault(forty + ten, forty.length(), 4);
        fault(forty + "to 40 0 0 1;", forty.length(), 4);
        fault(forty + "to 40 0 0 1", forty.length() + 11, 1);
        right(forty + "mark b;again b 3;", 40);
        fault(forty + " again a 1;", forty.length() + 1, 4);
        // 32 chords twice are 64
        String round = "tolerance 0;mark a;turn 0 1000 4 0 1;again a ";
        right(round + "1;", 64);
        fault(round + "2;", 37, 4);
        fault(round + "1;by 1 0 0 1;", 47, 4);
        fault(round + "1;by 0 1 0 1;", 47, 4);
        fault(round + "1;by 0 0 1 1;", 47, 4);
        right(round + "1;by 0 0 0 1;", 64);
        fault("tolerance 0;turn 0 1000 4 0 1;by 1 0 0 1;turn 0 1000 4 0 1;", 41, 4);
        String marks = "mark a;mark b;mark c;mark d;mark e;mark f;mark g;mark h;";
        right(marks, 0);
        fault(marks + "mark i;", 56, 4);
        fault(marks + "mark h;", 61, 3);
        fault(marks + "mark i", 62, 1);
    }

    private static void faultsOfPlaces() {
        right("to 100000 0 0 5;by 0 100000 0 5;by 0 0 -100000 5;", 3);
        fault("to 100000 0 0 5;by 1 0 0 5;", 16, 5);
        fault("to 0 -100000 0 5; by 0 -1 0 5;", 18, 5);
        fault("to 0 0 99999 5;turn 0 10 4 2 5;", 15, 5);
        // the end is within, a chord is not
        fault("to 100000 0 0 5;turn 0 10 2 0 5;", 16, 5);
        right("to 100000 0 0 5;turn 0 10 -2 0 5;", 3);
        // told again it goes beyond, at its first time, and at its third
        fault("mark a;by 60000 0 0 5;again a 1;", 22, 5);
        fault("mark a;by 30000 0 0 5;again a 3;", 22, 5);
        right("mark a;by 30000 0 0 5;again a 2;", 3);
        // the first of the moves told again decides; of one move 5
        String many = "mark a;" + Desk.repeat("by 1 0 0 1;", 9) + "mark b;by 11111 0 0 1;again a 3;";
        fault(many + "again b 1;", many.length(), 4);
        String far = "mark a;" + Desk.repeat("by 1 0 0 1;", 9) + "mark b;by 24990 0 0 1;again a 3;";
        fault(far + "again b 1;", far.length(), 5);
        fault(far + "by 0 0 0 1;", far.length(), 4);
    }

    private static void moves() {
        PathRide ride = Desk.riding("to 10 -20 30 5;by -1 2 -3 6;to 10 -20 30 7;to 10 -20 30 8;by 0 0 1 9;");
        Desk.due("blocks", ride.count(0), 4);
        Desk.due("moves", ride.count(1), 5);
        ends(ride, 0, 10, -20, 30);
        ends(ride, 1, 9, -18, 27);
        ends(ride, 2, 10, -20, 30);
        ends(ride, 3, 10, -20, 31);
        int[] of = {0, 1, 2, 4};
        int[] feeds = {5, 6, 7, 9};
        for (int k = 0; k < 4; k++) {
            Desk.due("move of " + k, ride.block(k, 9), of[k]);
            Desk.due("feed of " + k, ride.block(k, 4), feeds[k]);
        }
    }

    private static void again() {
        PathRide ride = Desk.riding("to 5 5 5 1;mark a;by 1 0 0 2;to 0 0 0 3;mark b;again a 2;again b 1;");
        // of a: by, to, by, to; these four come once more by b
        Desk.due("blocks", ride.count(0), 11);
        Desk.due("moves", ride.count(1), 11);
        Desk.due("marks", ride.count(2), 2);
        ends(ride, 1, 6, 5, 5);
        ends(ride, 2, 0, 0, 0);
        ends(ride, 3, 1, 0, 0);
        ends(ride, 4, 0, 0, 0);
        ends(ride, 10, 0, 0, 0);
        Desk.due("feed", ride.block(9, 4), 2);
        Desk.due("feed", ride.block(10, 4), 3);
        Desk.due("move", ride.block(10, 9), 10);
    }

    private static void turns() {
        // to the left round (0, 100), by quarters; radius 100, half of the root of 20000 is 70
        PathRide ride = Desk.riding("tolerance 30;turn 0 100 3 10 9;");
        Desk.due("blocks", ride.count(0), 3);
        ends(ride, 0, 100, 100, 3);
        ends(ride, 1, 0, 200, 6);
        ends(ride, 2, -100, 100, 10);
        // to the right
        ride = Desk.riding("tolerance 30;turn 0 100 -1 -7 9;");
        ends(ride, 0, -100, 100, -7);
        // one less: halved once; between is (100, -100) * 100 / 141
        ride = Desk.riding("tolerance 29;turn 0 100 1 -7 9;");
        Desk.due("blocks", ride.count(0), 2);
        ends(ride, 0, 70, 30, -3);
        ends(ride, 1, 100, 100, -7);
        // not more than three times
        ride = Desk.riding("tolerance 0;to 50 50 0 9;turn 50000 0 1 0 9;");
        Desk.due("blocks", ride.count(0), 9);
        ends(ride, 8, 50050, -49950, 0);
        // all the way round, back to where it was
        ride = Desk.riding("to 7 8 9 9;turn 30 -40 4 0 9;");
        int last = ride.count(0) - 1;
        ends(ride, last, 7, 8, 9);
        Desk.due("move of the last chord", ride.block(last, 9), 1);
        // from the centre: (2, 1), (1, 2), (0, 2), (0, 2), (-1, 2); the third chord goes nowhere
        ride = Desk.riding("tolerance 0;turn -2 -1 1 0 9;by 1 0 0 9;");
        Desk.due("blocks", ride.count(0), 4);
        ends(ride, 0, -1, 1, 0);
        ends(ride, 1, -2, 1, 0);
        ends(ride, 2, -3, 1, 0);
        Desk.due("move of the last block", ride.block(3, 9), 1);
        // if Z goes on, it goes somewhere
        ride = Desk.riding("tolerance 0;turn -2 -1 1 -4 9;");
        Desk.due("blocks", ride.count(0), 4);
        ends(ride, 1, -2, 1, -2);
        ends(ride, 2, -2, 1, -3);
    }

    private static void whatAFaultLeaves() {
        PathRide ride = Desk.riding("jerk 5;tolerance 7;mark a;to 1000 0 0 500;");
        ride.ticks(5);
        ride.give(50);
        ride.hold();
        ride.image(1);
        int[] before = new int[16];
        for (int what = 0; what < 16; what++) {
            before[what] = ride.count(what);
        }
        Desk.due("a fault", Desk.tell(ride, "jerk 9;tolerance 8;mark b;mark c;to 5 5 5 5;to 1 2 3 4"), -2 - (8 * 54 + 1));
        for (int what = 0; what < 16; what++) {
            Desk.due("count " + what + " behind a fault", ride.count(what), before[what]);
        }
        Desk.due("the block stays", ride.block(0, 0), 1000);
        Desk.due("its feed, too", ride.block(0, 4), 500);
        Desk.due("acts can be undone still", ride.undo(), 6);
        Desk.due("the image is there still", ride.back(1), before[4]);
    }

    private static void settingsAnew() {
        PathRide ride = Desk.riding("axes 9 9 9 9 9 9;jerk 3;tolerance 4;to 5 0 0 5000;");
        Desk.due("speed", ride.block(0, 5), 9);
        for (String text : new String[] {"to 5 0 0 5000;", "to 0 0 5 5000;"}) {
            Desk.due("told without settings", Desk.tell(ride, text), 1);
            Desk.due("speed", ride.block(0, 5), 2000);
            Desk.due("push", ride.block(0, 6), 100);
            Desk.due("jerk", ride.count(11), 10);
            Desk.due("tolerance", ride.count(12), 50);
            Desk.due("marks", ride.count(2), 0);
            Desk.due("all", ride.count(3), 5);
        }
    }

    private static void whatAProgramEnds() {
        PathRide ride = Desk.riding("jerk 5;tolerance 7;axes 9 9 9 9 9 9;mark a;to 1000 0 0 500;");
        ride.ticks(5);
        ride.give(50);
        ride.hold();
        ride.image(1);
        Desk.due("another program", Desk.tell(ride, "to 30 0 0 100;"), 1);
        int[] counts = {1, 1, 0, 30, 0, 0, 0, 0, 100, 0, 10, 10, 50, 0, 0, 0};
        for (int what = 0; what < counts.length; what++) {
            Desk.due("count " + what + " of another program", ride.count(what), counts[what]);
        }
        Desk.due("nothing can be undone", ride.undo(), -2);
        Desk.due("no image", ride.back(1), -1);
        Desk.due("an empty program", ride.program(), 0);
        Desk.due("no blocks", ride.count(0), 0);
        Desk.due("no block of s", ride.count(7), -1);
        Desk.due("reach", ride.count(10), 12);
    }
}
