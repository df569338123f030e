/** The edges of promise 4, with Term I: how long a text is, tokens, numbers, names, how many there may be. */
public final class ProgramEdgesTest {
    private static final String BY = "by 1 0 0 1;";
    private static final String[] WORDS = {"axes", "jerk", "tolerance", "to", "by", "turn", "mark", "again"};

    public static void main(String[] args) {
        lengths();
        signsInALine();
        signsInAName();
        wordsAndNumbersAsFarAsTheyGo();
        blanksAsOneLikes();
        settings();
        settingsUntold();
        settingsOnceAndAhead();
        places();
        placesOfTurns();
        feeds();
        quartersAndTimes();
        names();
        moves();
        marks();
        blocks();
        blocksOfTurns();
        Desk.finish("ProgramEdgesTest");
    }

    private static void lengths() {
        Desk.promise(4, "A PROGRAM is a text of at most 400 bytes");
        Faults.right("", 0);
        Faults.right(" ", 0);
        Faults.right("to 1 2 3 4;", 1);
        for (int n : new int[] {11, 12, 399, 400}) {
            Faults.right("to 1 2 3 4" + Desk.repeat(" ", n - 11) + ";", 1);
            Faults.right("to 1 2 3 4;" + Desk.repeat("\n", n - 11), 1);
        }
        Desk.promise(4, "the end: how many bytes there are");
        for (int n : new int[] {10, 11, 399, 400}) {
            Faults.fault("to 1 2 3 4" + Desk.repeat(" ", n - 10) + "^", 1);
        }
        Faults.fault(Desk.repeat(" ", 399) + "^x", 1);
        Faults.fault(Desk.repeat(" ", 399) + "^;", 1);
    }

    /** Each of the 256 bytes behind the feed of a line: only blanks, digits and the end of the line are right. */
    private static void signsInALine() {
        Desk.promise(4, "1 what is no TOKEN, or one that cannot stand there");
        for (char sign = 0; sign < 256; sign++) {
            String text = "to 1 2 3 4" + sign;
            if (sign == 32 || sign == 10) {
                Faults.right(text + ";", 1);
            } else if (sign >= '0' && sign <= '9') {
                Desk.due("feed of " + text, Faults.right(text + ";", 1).block(0, 4), 40 + sign - '0');
            } else if (sign == ';') {
                Faults.right(text, 1);
                Faults.fault("to 1 2 3 4;^;", 1);
            } else {
                Faults.fault("to 1 2 3 4^" + sign + ";", 1);
            }
        }
    }

    /** Each of the 256 bytes alone as a name: only small letters are right. */
    private static void signsInAName() {
        Desk.promise(4, "WORDS (small letters, as far as they go on)");
        for (char sign = 0; sign < 256; sign++) {
            if (sign >= 'a' && sign <= 'z') {
                Desk.due("marks", Faults.right("mark " + sign + ";again " + sign + " 1;", 0).count(2), 1);
            } else if (sign == 32 || sign == 10) {
                Faults.fault("mark " + sign + "^;", 1);
            } else {
                Faults.fault("mark ^" + sign + ";", 1);
            }
        }
        Desk.promise(4, "1 what is no TOKEN");
        for (char sign = 0; sign < 256; sign++) {
            if (sign >= 'a' && sign <= 'z') {
                Faults.fault("^t" + sign + "o 1 2 3 4;", 1);
            } else if (sign == 32 || sign == 10) {
                Faults.right(sign + "to 1 2 3 4;", 1);
            } else {
                Faults.fault("^" + sign + "to 1 2 3 4;", 1);
            }
        }
    }

    private static void wordsAndNumbersAsFarAsTheyGo() {
        Desk.promise(4, "WORDS as far as they go on, NUMBERS as far as they go on");
        Faults.right("to1 2 3 4;to-1 2 3 4;", 2);
        Faults.right("to 1-2-3 4;", 1);
        Faults.right("mark a;again a1;mark ab;again ab1;", 0);
        Faults.fault("^toto 1 2 3 4;", 1);
        // the words that begin a line, with another letter first, last, one less, one more
        for (String word : WORDS) {
            String rest = word.substring(1);
            String most = word.substring(0, word.length() - 1);
            for (String other : new String[] {"q" + rest, most + "q", rest, most, word + "q", "q" + word}) {
                Faults.fault("^" + other + " 1 2 3 4 5 6;", 1);
                Faults.right("mark " + (other.length() > 7 ? "q" : other) + ";", 0);
            }
        }
        Faults.fault("^t o 1 2 3 4;", 1);
        Faults.fault("^top 1 2 3 4;", 1);
        Faults.fault("^tolerancetolerance 5;", 1);
        Faults.fault("mark a;again ^aa 1;", 3);
        Faults.fault("to 12 3 4^;", 1);
        Faults.fault("to 1 2 3 4 ^5;", 1);
        Desk.due("a number begins with 0", Faults.right("to 0000000000001 2 3 4;", 1).block(0, 0), 1);
        Faults.fault("to 1 2 3 4^a;", 1);
        Faults.fault("to ^a 2 3 4;", 1);
        Faults.fault("to 1 -^-2 3 4;", 1);
        Faults.fault("to - ^- 1 2 3 4;", 1);
        Faults.fault("to -^;", 1);
        Faults.fault("to -^", 1);
        Faults.fault("to 1 2 3 ^-4;", 1);
        Faults.fault("jerk ^-5;", 1);
        Faults.fault("tolerance ^-5;", 1);
        Faults.fault("axes 1 1 1 1 1 ^-1;", 1);
        Faults.fault("mark a;again a ^-1;", 1);
        Faults.fault("turn 5 5 1 0 ^-1;", 1);
    }

    private static void blanksAsOneLikes() {
        Desk.promise(4, "with blanks (32, 10) between as one likes");
        PathRide ride = Faults.right("\n to\n\n -  \n 7 - 8-9\n4 \n;\n \nmark\na\n;again a\n1;", 1);
        int[] block = {-7, -8, -9, 13, 4};
        for (int what = 0; what < block.length; what++) {
            Desk.due("block 0 " + what, ride.block(0, what), block[what]);
        }
        Faults.right("to-7-8-9 4;mark a;again a 1;", 1);
        Faults.fault("to 1 2 3^\t4;", 1);
        Faults.fault("to 1 2 3^\r4;", 1);
    }

    private static void settings() {
        Desk.promise(4, "axes: 1 to 5000; 1 to 500");
        for (int i = 0; i < 6; i++) {
            String before = "axes " + Desk.repeat("7 ", i);
            String behind = Desk.repeat(" 9", 5 - i) + ";to 5 5 5 5;";
            Faults.bounds(before, behind, 1, i < 3 ? 5000 : 500);
            int axis = i % 3;
            for (int n : i < 3 ? new int[] {1, 2, 4999, 5000} : new int[] {1, 2, 499, 500}) {
                String move = "to " + (axis == 0 ? 1 : 0) + " " + (axis == 1 ? 1 : 0) + " " + (axis == 2 ? 1 : 0) + " 5;";
                PathRide ride = Faults.right(before + n + Desk.repeat(" 9", 5 - i) + ";" + move, 1);
                Desk.due(before + n + ": told", ride.block(0, i < 3 ? 5 : 6), n);
            }
        }
        Faults.fault("axes 1 1 1 1 1^;", 1);
        Faults.fault("axes 1 1 1 1 1 1 ^1;", 1);
        Desk.promise(4, "jerk: 1 to 50");
        Faults.bounds("jerk ", ";", 1, 50);
        for (int n : new int[] {1, 2, 49, 50}) {
            Desk.due("jerk", Faults.right("jerk " + n + ";", 0).count(11), n);
        }
        Desk.promise(4, "tolerance: 0 to 2000");
        Faults.bounds("tolerance ", ";", 0, 2000);
        for (int n : new int[] {0, 1, 1999, 2000}) {
            Desk.due("tolerance", Faults.right("tolerance " + n + ";", 0).count(12), n);
        }
    }

    private static void settingsUntold() {
        Desk.promise(4, "2000 and 100 each, if nothing is told; jerk (10); tolerance (50)");
        String[] moves = {"to 5 0 0 5;", "to 0 5 0 5;", "to 0 0 5 5;"};
        PathRide after = Faults.right("axes 1 2 3 4 5 6;jerk 7;tolerance 8;", 0);
        for (String move : moves) {
            for (PathRide ride : new PathRide[] {Faults.right(move, 1), after}) {
                Desk.due("program of " + move, Desk.tell(ride, move), 1);
                Desk.due("speed", ride.block(0, 5), 2000);
                Desk.due("push", ride.block(0, 6), 100);
                Desk.due("jerk", ride.count(11), 10);
                Desk.due("tolerance", ride.count(12), 50);
            }
        }
    }

    private static void settingsOnceAndAhead() {
        Desk.promise(4, "each once, ahead of all other LINES");
        String[] lines = {"axes 9 9 9 9 9 9;", "jerk 9;", "tolerance 9;"};
        String[] others = {"to 0 0 0 1;", "by 0 0 0 1;", "turn 1 0 4 0 1;", "mark a;", "to 9 9 9 9;"};
        for (int i = 0; i < 3; i++) {
            for (int k = 0; k < 3; k++) {
                String both = lines[i] + lines[k];
                if (i == k) {
                    Faults.fault(lines[i] + "^" + lines[i], 3);
                    Faults.fault(lines[i] + lines[(i + 1) % 3] + "^" + lines[i], 3);
                    Faults.fault(lines[i] + lines[(i + 1) % 3] + lines[(i + 2) % 3] + "^" + lines[i], 3);
                } else {
                    Faults.right(both + lines[3 - i - k], 0);
                }
            }
            for (String other : others) {
                Faults.right(lines[i] + other, other.startsWith("turn") ? 4 : other.startsWith("to 9") ? 1 : 0);
                Faults.fault(other + "^" + lines[i], 1);
                // of one place the least: told twice, too, but it cannot stand there
                Faults.fault(lines[i] + other + "^" + lines[i], 1);
            }
        }
        Faults.fault("mark a;again a 1;^jerk 9;", 1);
        // at its WORD: what comes behind it is not looked at any more
        Faults.fault("jerk 9;^jerk 99;", 3);
        Faults.fault("jerk 9;^jerk", 3);
        Faults.fault("tolerance 9;^tolerance x", 3);
    }

    private static void places() {
        Desk.promise(4, "PLACE: at most 100000 either way");
        Faults.boundsBothWays("to ", " 2 3 4;", 0, 100000);
        Faults.boundsBothWays("to 1 ", " 3 4;", 0, 100000);
        Faults.boundsBothWays("to 1 2 ", " 4;", 0, 100000);
        Faults.boundsBothWays("by ", " 2 3 4;", 0, 100000);
        Faults.boundsBothWays("by 1 ", " 3 4;", 0, 100000);
        Faults.boundsBothWays("by 1 2 ", " 4;", 0, 100000);
        String[] words = {"to", "by"};
        for (String word : words) {
            for (int n : new int[] {0, 1, 99999, 100000}) {
                for (int sign = -1; sign <= 1; sign += 2) {
                    PathRide ride = Faults.right(word + " " + sign * n + " " + sign * n + " " + sign * n + " 5;", n == 0 ? 0 : 1);
                    for (int axis = 0; axis < 3; axis++) {
                        Desk.due(word + " " + sign * n, n == 0 ? 0 : ride.block(0, axis), sign * n);
                    }
                }
            }
        }
    }

    private static void placesOfTurns() {
        Desk.promise(4, "PLACE: at most 100000 either way");
        for (String sign : new String[] {"", "-", "- "}) {
            for (int n : new int[] {1, 2, 99999, 100000}) {
                Faults.right("tolerance 2;turn " + sign + n + " 0 1 0 5;", n < 3 ? 1 : 8);
                Faults.right("tolerance 2;turn 0 " + sign + n + " 1 0 5;", n < 3 ? 1 : 8);
                PathRide ride = Faults.right("turn 9 9 1 " + sign + n + " 5;", 1);
                Desk.due("Z", ride.block(0, 2), sign.isEmpty() ? n : -n);
            }
            for (String n : new String[] {"100001", "100002", "200000", "4294967297", "99999999999999999999"}) {
                Faults.fault("turn " + sign + "^" + n + " 0 1 0 5;", 2);
                Faults.fault("turn 0 " + sign + "^" + n + " 1 0 5;", 2);
                Faults.fault("turn 9 9 1 " + sign + "^" + n + " 5;", 2);
            }
        }
        Desk.promise(4, "2 a turn whose first two numbers are 0 (at the second)");
        Faults.fault("turn 0 ^0 1 0 5;", 2);
        Faults.fault("turn -0 -^0 1 0 5;", 2);
        Faults.fault("turn 000 - ^0 9 0 5;", 2);
        Faults.fault("turn 0 ^0", 2);
        Faults.right("turn 1 0 1 0 5;", 1);
        Faults.right("turn 0 -1 1 0 5;", 1);
    }

    private static void feeds() {
        Desk.promise(4, "FEED: 1 to 5000");
        Faults.bounds("to 1 2 3 ", ";", 1, 5000);
        Faults.bounds("by 1 2 3 ", ";", 1, 5000);
        Faults.bounds("turn 1 2 3 4 ", ";", 1, 5000);
        for (String move : new String[] {"to 1 2 3 ", "by 1 2 3 ", "turn 9 9 1 0 "}) {
            for (int n : new int[] {1, 2, 4999, 5000}) {
                Desk.due("feed", Faults.right(move + n + ";", 1).block(0, 4), n);
            }
        }
    }

    private static void quartersAndTimes() {
        Desk.promise(4, "QUARTERS: 1 to 4 either way");
        Faults.boundsBothWays("turn 9 9 ", " 0 5;", 1, 4);
        for (int n = 1; n <= 4; n++) {
            Faults.right("turn 9 9 " + n + " 0 5;", n);
            Faults.right("turn 9 9 -" + n + " 0 5;", n);
        }
        Desk.promise(4, "TIMES: 1 to 3");
        Faults.bounds("mark a;by 1 0 0 1;again a ", ";", 1, 3);
        for (int n = 1; n <= 3; n++) {
            Faults.right("mark a;by 1 0 0 1;again a " + n + ";", 1 + n);
        }
    }

    private static void names() {
        Desk.promise(4, "NAME: a WORD of 1 to 7 letters, none of the eight that begin a LINE");
        for (String name : new String[] {"a", "ab", "abcdef", "abcdefg", "z", "markk", "mar", "t", "tolera", "axe"}) {
            Faults.right("mark " + name + ";again " + name + " 1;", 0);
        }
        Faults.fault("mark ^;", 1);
        Faults.fault("mark^", 1);
        Faults.fault("mark ^abcdefgh;", 1);
        Faults.fault("mark ^abcdefghi;", 1);
        Faults.fault("mark abcdefg;again ^abcdefgh 1;", 1);
        for (String word : WORDS) {
            Faults.fault("mark ^" + word + ";", 1);
            Faults.fault("mark a;again ^" + word + " 1;", 1);
        }
        Desk.promise(4, "3 a NAME told twice as a mark, or again without a mark (at it)");
        Faults.fault("mark a;mark ^a;", 3);
        Faults.fault("mark a;mark b;mark ^a;", 3);
        Faults.fault("mark a;to 1 1 1 1;mark b;mark ^b;", 3);
        Faults.fault("again ^a 1;", 3);
        Faults.fault("again ^a 1;mark a;", 3);
        Faults.fault("mark a;again ^b 1;", 3);
        // names that differ in the last letter, in the first, in how long they are
        Faults.right("mark abcdefg;mark abcdefh;mark bbcdefg;mark abcdef;mark bcdefg;", 0);
        Faults.fault("mark abcdefg;again ^abcdefh 1;", 3);
        Faults.fault("mark abcdefg;again ^bbcdefg 1;", 3);
        Faults.fault("mark abcdefg;again ^abcdef 1;", 3);
        Faults.fault("mark abcdef;again ^abcdefg 1;", 3);
        // at it: what is wrong behind the name comes later along the text
        Faults.fault("mark a;mark ^a x", 3);
        Faults.fault("again ^a", 3);
        Faults.fault("again ^a 9;", 3);
    }

    private static void moves() {
        Desk.promise(4, "There are at most 40 MOVES; 4 a 41st MOVE (where the LINE begins)");
        String most = "mark a;" + Desk.repeat(BY, 13) + "again a 2;";
        Desk.due("moves", Faults.right(most, 39).count(1), 39);
        Desk.due("moves", Faults.right(most + BY, 40).count(1), 40);
        Faults.fault(most + BY + "^" + BY, 4);
        Faults.fault(most + BY + " \n^" + BY, 4);
        Faults.fault(most + BY + "mark b;^turn 9 9 1 0 5;", 4);
        // one that goes nowhere is one, too
        Desk.due("moves", Faults.right(most + "by 0 0 0 1;", 39).count(1), 40);
        Faults.fault(most + "by 0 0 0 1;^by 0 0 0 1;", 4);
        Faults.fault(most + "by 0 0 0 1;^to 39 0 0 1;", 4);
        // told again: the 40th, and the 41st
        Desk.due("moves", Faults.right(most + "mark b;again b 3;", 39).count(1), 39);
        Faults.fault(most + "mark b;" + BY + "^again b 1;", 4);
        Faults.fault("mark a;" + Desk.repeat(BY, 14) + "^again a 2;", 4);
        Faults.right("mark a;" + Desk.repeat(BY, 10) + "again a 3;", 40);
        Faults.right("mark a;" + Desk.repeat(BY, 20) + "again a 1;", 40);
        Faults.fault("mark a;" + Desk.repeat(BY, 21) + "^again a 1;", 4);
        Faults.right(BY + "mark a;" + Desk.repeat(BY, 13) + "again a 2;", 40);
        Faults.fault(BY + BY + "mark a;" + Desk.repeat(BY, 13) + "^again a 2;", 4);
        // marks, and again without moves, may come behind the 40th
        Faults.right(most + BY + "mark b;again b 3;mark c;", 40);
        Desk.promise(4, "4 and 5 are told when the LINE is right up to its ;");
        Faults.fault(most + BY + "by 1 0 0 1^", 1);
        Faults.fault(most + BY + "by 1 0 0 1 ^by", 1);
        Faults.fault(most + BY + "by 1 0 0 ^0;", 2);
        Faults.fault(most + BY + "again ^c 1;", 3);
        Faults.fault(most + BY + "again a ^4;", 2);
        Faults.fault(most + BY + "again a 3^", 1);
    }

    private static void marks() {
        Desk.promise(4, "There are at most 8 marks; a ninth mark (where the LINE begins)");
        String seven = "mark a;mark b;mark c;mark d;mark e;mark f;mark g;";
        Desk.due("marks", Faults.right(seven, 0).count(2), 7);
        Desk.due("marks", Faults.right(seven + "mark h;", 0).count(2), 8);
        Faults.right(seven + "mark h;by 1 0 0 1;again h 1;again a 1;", 4);
        Faults.fault(seven + "mark h;^mark i;", 4);
        Faults.fault(seven + "mark h;" + BY + " ^mark i;", 4);
        Faults.fault(seven + "mark h;mark ^h;", 3);
        Faults.fault(seven + "mark h;mark i^", 1);
        Faults.fault(seven + "mark h;mark ^mark;", 1);
        Faults.fault(seven + "mark h;again ^i 1;", 3);
    }

    private static void blocks() {
        Desk.promise(4, "There are at most 64 BLOCKS; a 65th BLOCK (where the LINE begins)");
        // 32 and 24 chords
        String most = "tolerance 0;turn 0 1000 4 0 1;turn 0 1000 3 0 1;" + Desk.repeat(BY, 7);
        Desk.due("blocks", Faults.right(most, 63).count(0), 63);
        Desk.due("blocks", Faults.right(most + BY, 64).count(0), 64);
        Faults.fault(most + BY + "^" + BY, 4);
        Faults.fault(most + BY + "^by 0 1 0 1;", 4);
        Faults.fault(most + BY + "^by 0 0 1 1;", 4);
        Faults.fault(most + BY + "^by 0 0 -1 1;", 4);
        // what goes nowhere is no block
        PathRide ride = Faults.right(most + BY + "by 0 0 0 1;by 0 0 0 1;", 64);
        Desk.due("moves", ride.count(1), 12);
        Faults.fault(most + BY + "by 0 0 0 1;^" + BY, 4);
        Faults.fault(most + BY + "by 1 0 0 1^", 1);
    }

    private static void blocksOfTurns() {
        Desk.promise(4, "a 65th BLOCK (where the LINE begins)");
        String turns = "tolerance 0;turn 0 1000 4 0 1;turn 0 1000 3 0 1;";
        Faults.right(turns + "turn 0 1000 1 0 1;", 64);
        Faults.fault(turns + BY + "^turn 0 1000 1 0 1;", 4);
        Faults.fault(turns + "^turn 0 1000 2 0 1;", 4);
        Faults.right("tolerance 0;mark a;turn 0 1000 4 0 1;again a 1;", 64);
        Faults.fault("tolerance 0;mark a;turn 0 1000 4 0 1;^again a 2;", 4);
        Faults.fault("tolerance 0;mark a;turn 0 1000 4 0 1;" + BY + "^again a 1;", 4);
        Faults.right("tolerance 0;mark a;turn 0 1000 2 0 1;again a 3;", 64);
        // a turn of four chords of which one goes nowhere: three blocks
        Faults.right(turns + Desk.repeat(BY, 4) + "turn -2 -1 1 0 9;", 63);
        Faults.right(turns + Desk.repeat(BY, 5) + "turn -2 -1 1 0 9;", 64);
        Faults.fault(turns + Desk.repeat(BY, 6) + "^turn -2 -1 1 0 9;", 4);
        Faults.right(turns + Desk.repeat(BY, 5) + "turn -2 -1 1 1 9;", 64);
        // of eight chords the first and the last but one go nowhere
        Faults.right(turns + BY + BY + "turn 4 1 1 0 9;", 64);
        Faults.fault(turns + BY + BY + BY + "^turn 4 1 1 0 9;", 4);
    }
}
