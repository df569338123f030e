import java.util.Random;

/** Calls without order on new objects, each compared with what Oracle answers. Arguments: runs, first seed. */
public final class RandomRunsTest {
    // an object is used for at most 512 calls; the last program may take 23 of them, the last act 7
    private static final int CALLS = 480;

    private final Random random;
    private final long seed;
    private final PathRide ride = new PathRide();
    private final Oracle due = new Oracle();
    private int calls;
    private static int wrong;
    private static int told;
    private static int refused;
    private String text = "";

    private RandomRunsTest(long seed) {
        this.seed = seed;
        random = new Random(seed);
    }

    public static void main(String[] args) {
        int runs = args.length > 0 ? Integer.parseInt(args[0]) : 300;
        long first = args.length > 1 ? Long.parseLong(args[1]) : 1;
        for (long seed = first; seed < first + runs && wrong < 20; seed++) {
            new RandomRunsTest(seed).play();
        }
        System.out.println("RandomRunsTest: " + runs + " runs, " + told + " programs told, " + refused
            + " refused, " + wrong + " wrong");
        if (wrong > 0 || told == 0 || refused == 0) {
            System.exit(1);
        }
    }

    private void play() {
        Programs programs = new Programs(random);
        int before = wrong;
        while (calls < CALLS && wrong == before) {
            if (random.nextInt(6) != 0 || calls > 0) {
                tell(programs.next());
            }
            int asks = 10 + random.nextInt(80);
            for (int i = 0; i < asks && calls < CALLS && wrong == before; i++) {
                ask();
            }
        }
    }

    private void check(String call, long got, long want) {
        calls++;
        if (got != want) {
            wrong++;
            System.out.println("seed " + seed + ", call " + calls + ": " + call + " answered " + got + ", due is "
                + want + "; program: " + text);
        }
    }

    private void tell(String program) {
        text = program;
        check("end", ride.end(0), due.end(0));
        for (int i = 0; i < program.length(); i += 20) {
            int[] n = new int[5];
            for (int k = 0; k < 20; k++) {
                int sign = i + k < program.length() ? program.charAt(i + k) : ' ';
                n[k / 4] = n[k / 4] << 8 | sign;
            }
            check("feed", ride.feed(n[0], n[1], n[2], n[3], n[4]), due.feed(n[0], n[1], n[2], n[3], n[4]));
        }
        check("end", ride.end(program.length()), due.end(program.length()));
        int want = due.program();
        check("program", ride.program(), want);
        if (want >= 0) {
            told++;
        } else {
            refused++;
        }
    }

    private int some(int least, int most) {
        return least + random.nextInt(most - least + 1);
    }

    private int coordinate() {
        return random.nextInt(3) == 0 ? some(-100002, 100002) : some(-400, 400);
    }

    private int along() {
        int all = due.p.all();
        return random.nextInt(10) == 0 ? some(-1, all + 1) : some(0, all);
    }

    private void ask() {
        int dice = random.nextInt(100);
        if (dice < 28) {
            act();
        } else if (dice < 52) {
            askAhead();
        } else if (dice < 75) {
            askWay();
        } else {
            askShape();
        }
    }

    private void act() {
        int n;
        switch (random.nextInt(10)) {
            case 0: case 1: case 2:
                n = some(1, 6);
                check("ticks " + n, ride.ticks(n), due.ticks(n));
                break;
            case 3:
                n = some(0, 61);
                check("ticks " + n, ride.ticks(n), due.ticks(n));
                break;
            case 4:
                n = random.nextInt(8) == 0 ? some(-2, 203) : some(1, random.nextBoolean() ? 200 : 20);
                check("give " + n, ride.give(n), due.give(n));
                break;
            case 5:
                if (random.nextInt(3) == 0) {
                    check("hold", ride.hold() ? 1 : 0, due.hold() ? 1 : 0);
                }
                break;
            case 6:
                check("letGo", ride.letGo() ? 1 : 0, due.letGo() ? 1 : 0);
                break;
            case 7:
                check("undo", ride.undo(), due.undo());
                break;
            case 8:
                n = some(-1, 3);
                check("image " + n, ride.image(n), due.image(n));
                break;
            default:
                n = some(-1, 3);
                if (random.nextInt(3) == 0) {
                    check("back " + n, ride.back(n), due.back(n));
                } else {
                    check("undo", ride.undo(), due.undo());
                }
        }
        for (int what = 4; what <= 9; what++) {
            check("count " + what, ride.count(what), due.count(what));
        }
    }

    private void askAhead() {
        int n = some(0, 300);
        int what = some(-1, 5);
        switch (random.nextInt(11)) {
            case 0: case 1:
                n = random.nextInt(9) == 0 ? some(-1, 302) : some(0, 40);
                check("ahead " + n + " " + what, ride.ahead(n, what), due.ahead(n, what));
                break;
            case 2:
                check("till", ride.till(), due.till());
                break;
            case 3:
                what = some(0, 2);
                n = what == 0 ? some(-1, 2001) : what == 1 ? some(-1, 51) : some(-1, 201);
                check("tried " + what + " " + n, ride.tried(what, n), due.tried(what, n));
                break;
            case 4:
                if (random.nextInt(4) == 0) {
                    int till = due.till();
                    n = random.nextInt(9) == 0 ? some(-1, 3001) : Math.min(3000, Math.max(0, till) + some(0, 40));
                    check("slowest " + n, ride.slowest(n), due.slowest(n));
                }
                break;
            case 5:
                check("brakes " + what, ride.brakes(what), due.brakes(what));
                break;
            case 6: case 7:
                check("run " + what, ride.run(what), due.run(what));
                break;
            case 8:
                n = random.nextInt(9) == 0 ? some(-1, 302) : some(0, 40);
                check("halt " + n, ride.halt(n), due.halt(n));
                break;
            case 9:
                n = along();
                check("due " + n, ride.due(n), due.due(n));
                break;
            default:
                n = some(-1, 42);
                what = some(-7, 7);
                check("least " + n + " " + what, ride.least(n, what), due.least(n, what));
        }
    }

    private void askWay() {
        int block = some(-1, due.p.blocks.size());
        int what = some(-1, 10);
        int n;
        switch (random.nextInt(8)) {
            case 0: case 1:
                check("block " + block + " " + what, ride.block(block, what), due.block(block, what));
                break;
            case 2:
                what = some(-1, 3);
                check("corner " + block + " " + what, ride.corner(block, what), due.corner(block, what));
                break;
            case 3:
                check("binds " + block, ride.binds(block), due.binds(block));
                break;
            case 4:
                n = some(-1, 3);
                check("where " + n, ride.where(n), due.where(n));
                break;
            case 5: case 6:
                int s = along();
                n = some(0, 2);
                check("place " + s + " " + n, ride.place(s, n), due.place(s, n));
                break;
            default:
                n = some(-1, 16);
                check("count " + n, ride.count(n), due.count(n));
        }
    }

    private void askShape() {
        int what = some(-1, 4);
        int n;
        switch (random.nextInt(10)) {
            case 0:
                check("spots", ride.spots(), due.spots());
                break;
            case 1:
                n = some(-1, due.spots());
                check("spot " + n + " " + what, ride.spot(n, what), due.spot(n, what));
                break;
            case 2:
                int[] at = {coordinate(), coordinate(), 0};
                if (due.spots() > 0) {
                    at = due.spotList().get(random.nextInt(due.spots()));
                }
                n = random.nextInt(5) == 0 ? 1 : 0;
                check("comes", ride.comes(at[0] + n, at[1], at[2]), due.comes(at[0] + n, at[1], at[2]));
                break;
            case 3:
                n = some(-2, due.p.blocks.size());
                check("twice " + n, ride.twice(n), due.twice(n));
                break;
            case 4:
                n = some(-2, 3);
                check("layer " + n + " " + what, ride.layer(n, what), due.layer(n, what));
                break;
            case 5:
                check("meets " + what, ride.meets(what), due.meets(what));
                break;
            case 6:
                n = some(-1, 2);
                check("box " + what + " " + n, ride.box(what, n), due.box(what, n));
                break;
            case 7:
                int x = coordinate();
                int y = coordinate();
                int z = coordinate();
                n = some(-1, 2);
                check("near " + x + " " + y + " " + z + " " + n, ride.near(x, y, z, n), due.near(x, y, z, n));
                break;
            case 8:
                n = some(-1, 2);
                check("keep " + n, ride.keep(n), due.keep(n));
                break;
            default:
                n = some(-1, 2);
                check("common " + n, ride.common(n), due.common(n));
        }
    }
}
