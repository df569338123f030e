/** A desk for paths of a tool: ../shared/DOC.md tells what each call answers. */
public final class PathRide {
    public static final int NONE = -1;

    private static final int NEVER = -2;
    private static final int NOTHING = -2147483648;
    private static final int TAPE_BYTES = 400;
    private static final int MOST_MOVES = 40;
    private static final int MOST_MARKS = 8;
    private static final int MOST_BLOCKS = 64;
    private static final int AXES = 3;
    private static final int FARTHEST = 100000;
    private static final int PATIENCE = 3000;
    private static final int MOST_AHEAD = 300;
    private static final int MOST_TICKS = 60;
    private static final int MOST_GIVEN = 200;
    private static final int FIRST_GIVEN = 100;
    private static final int MOST_JERK = 50;
    private static final int MOST_TOLERANCE = 2000;
    private static final int IMAGES = 3;
    private static final int KEEPS = 2;

    private final Tape tape;
    private final Reader reader;
    private Way way;
    private Way spare;
    private final Shape shape;
    private final Drive drive;
    private final Drive trial;
    private final State now;
    private final State trip;
    private final Past past;
    private final State[] images;
    private final boolean[] imaged;
    private final Kept[] kept;
    private final Least leasts;
    private final int[] tally;

    public PathRide() {
        way = new Way();
        spare = new Way();
        tape = new Tape();
        reader = new Reader(tape, spare);
        shape = new Shape(way);
        drive = new Drive(way);
        trial = new Drive(way);
        now = new State();
        trip = new State();
        past = new Past();
        images = new State[IMAGES];
        for (int k = 0; k < IMAGES; k++) {
            images[k] = new State();
        }
        imaged = new boolean[IMAGES];
        kept = new Kept[KEEPS];
        for (int k = 0; k < KEEPS; k++) {
            kept[k] = new Kept();
        }
        leasts = new Least();
        tally = new int[5];
        startAnew();
    }

    // ---- the tape and the program ----

    public int feed(int a, int b, int c, int d, int e) {
        if (tape.size + 20 > TAPE_BYTES) {
            return NONE;
        }
        tape.addNumber(a);
        tape.addNumber(b);
        tape.addNumber(c);
        tape.addNumber(d);
        tape.addNumber(e);
        return tape.size;
    }

    public int end(int n) {
        if (n < 0 || n > tape.size) {
            return NONE;
        }
        tape.size = n;
        return n;
    }

    public int program() {
        int fault = reader.read(spare);
        tape.size = 0;
        if (fault != NONE) {
            return -2 - fault;
        }
        Way told = spare;
        spare = way;
        way = told;
        startAnew();
        return way.blocks;
    }

    private void startAnew() {
        drive.settle(way, way.tolerance, way.jerk);
        drive.grant(FIRST_GIVEN);
        shape.look(way);
        now.begin(way, FIRST_GIVEN);
        now.ticked = 0;
        past.forget();
        for (int k = 0; k < IMAGES; k++) {
            imaged[k] = false;
        }
    }

    public int block(int block, int what) {
        if (!way.has(block) || what < 0 || what > 9) {
            return NONE;
        }
        switch (what) {
            case 3: return way.lengths[block];
            case 4: return way.feeds[block];
            case 5: return way.speeds[block];
            case 6: return way.pushes[block];
            case 7: return drive.limits.limits[block];
            case 8: return drive.limits.passInto(block);
            case 9: return way.moveOf[block];
            default: return way.places[what][block + 1];
        }
    }

    public int corner(int block, int what) {
        if (!way.hasCorner(block)) {
            return NONE;
        }
        switch (what) {
            case 0: return way.sharps[block];
            case 1: return drive.limits.cuts[block];
            case 2: return drive.limits.paces[block];
            default: return NONE;
        }
    }

    // ---- acts ----

    public int ticks(int n) {
        if (n < 1 || n > MOST_TICKS) {
            return NONE;
        }
        if (drive.isDone(now)) {
            return NEVER;
        }
        for (int i = 0; i < n && !drive.isDone(now); i++) {
            past.note(now);
            drive.tick(now);
            now.ticked++;
        }
        return now.s;
    }

    public int give(int percent) {
        if (percent < 1 || percent > MOST_GIVEN || percent == now.given) {
            return NONE;
        }
        int was = now.given;
        past.note(now);
        now.given = percent;
        drive.grant(percent);
        return was;
    }

    public boolean hold() {
        if (now.held) {
            return false;
        }
        past.note(now);
        now.held = true;
        return true;
    }

    public boolean letGo() {
        if (!now.held) {
            return false;
        }
        past.note(now);
        now.held = false;
        return true;
    }

    public int undo() {
        if (past.size == 0) {
            return NEVER;
        }
        past.recall(now);
        drive.grant(now.given);
        return past.size;
    }

    // ---- where it is, and what is ahead ----

    public int where(int axis) {
        if (!isAxis(axis)) {
            return NOTHING;
        }
        return drive.limits.placeAt(now.s, axis);
    }

    public int place(int s, int axis) {
        if (!isAxis(axis) || s < 0 || s > way.all) {
            return NOTHING;
        }
        return drive.limits.placeAt(s, axis);
    }

    public int ahead(int n, int what) {
        if (n < 0 || n > MOST_AHEAD || what < 0 || what > 3) {
            return NOTHING;
        }
        trip.become(now);
        drive.goOn(trip, n);
        switch (what) {
            case 0: return trip.s;
            case 1: return trip.w;
            case 2: return trip.u;
            default: return trip.block;
        }
    }

    public int till() {
        if (drive.isDone(now)) {
            return 0;
        }
        if (now.held) {
            return NEVER;
        }
        trip.become(now);
        return drive.ticksToEnd(trip, PATIENCE);
    }

    public int tried(int what, int n) {
        if (!canTry(what, n)) {
            return NONE;
        }
        int tolerance = what == 0 ? n : way.tolerance;
        int jerk = what == 1 ? n : way.jerk;
        int given = what == 2 ? n : now.given;
        trial.settle(way, tolerance, jerk);
        trial.grant(given);
        trip.begin(way, given);
        return trial.ticksToEnd(trip, PATIENCE);
    }

    private static boolean canTry(int what, int n) {
        switch (what) {
            case 0: return n >= 0 && n <= MOST_TOLERANCE;
            case 1: return n >= 1 && n <= MOST_JERK;
            case 2: return n >= 1 && n <= MOST_GIVEN;
            default: return false;
        }
    }

    public int slowest(int n) {
        if (n < 0 || n > PATIENCE) {
            return NONE;
        }
        trial.settle(way, way.tolerance, way.jerk);
        for (int given = 10; given <= MOST_GIVEN; given += 10) {
            boolean other = trial.grant(given);
            // by the same limits it goes as it went by the last feed tried: not in time
            if (given == 10 || other) {
                trip.become(now);
                trip.held = false;
                if (trial.ticksToEnd(trip, n) != NEVER) {
                    return given;
                }
            }
        }
        return NEVER;
    }

    public int brakes(int what) {
        if (what != 0 && what != 1) {
            return NONE;
        }
        trip.become(now);
        int n = drive.brakeToRest(trip);
        return what == 0 ? n : trip.s - now.s;
    }

    public int least(int w, int u) {
        return leasts.wayFrom(w, u);
    }

    public int run(int what) {
        if (what < 0 || what > 4) {
            return NONE;
        }
        return survey() ? tally[what] : NEVER;
    }

    /** Fills the tally of RUN; false if it is not done in time. */
    private boolean survey() {
        for (int i = 0; i < 5; i++) {
            tally[i] = 0;
        }
        trip.become(now);
        trip.held = false;
        int before = NEVER;
        for (int n = 0; n < PATIENCE && !drive.isDone(trip); n++) {
            int j = drive.tick(trip);
            tally[0] = Math.max(tally[0], trip.w);
            tally[1] += j > 0 ? 1 : 0;
            tally[2] += j < 0 ? 1 : 0;
            tally[3] += drive.isAtLimit(trip) ? 1 : 0;
            tally[4] += j != before ? 1 : 0;
            before = j;
        }
        return drive.isDone(trip);
    }

    public int halt(int n) {
        if (n < 0 || n > MOST_AHEAD) {
            return NONE;
        }
        trip.become(now);
        drive.goOn(trip, n);
        drive.brakeToRest(trip);
        return trip.s;
    }

    public int due(int s) {
        if (s < 0 || s > way.all) {
            return NONE;
        }
        if (s <= now.s) {
            return 0;
        }
        if (now.held) {
            return NEVER;
        }
        trip.become(now);
        for (int n = 1; n <= PATIENCE; n++) {
            drive.tick(trip);
            if (trip.s >= s) {
                return n;
            }
        }
        return NEVER;
    }

    public int binds(int block) {
        return way.has(block) ? drive.limits.bindOf(block) : NONE;
    }

    // ---- the shape of the way ----

    public int spots() {
        return shape.spots;
    }

    public int spot(int k, int what) {
        if (k < 0 || k >= shape.spots || what < 0 || what > 3) {
            return NOTHING;
        }
        return what == 3 ? shape.often[k] : shape.spotAt[what][k];
    }

    public int comes(int x, int y, int z) {
        int k = shape.find(x, y, z);
        return k == NONE ? 0 : shape.often[k];
    }

    public int twice(int block) {
        if (block == NONE) {
            return shape.again;
        }
        return way.has(block) ? shape.firsts[block] : NONE;
    }

    public int layer(int k, int what) {
        if (k == NONE) {
            return shape.layers;
        }
        if (k < 0 || k >= shape.layers) {
            return NOTHING;
        }
        switch (what) {
            case 0: return shape.layerZ[k];
            case 1: return shape.layerBlocks[k];
            case 2: return shape.layerLengths[k];
            default: return NOTHING;
        }
    }

    public int meets(int what) {
        switch (what) {
            case 0: return shape.twos;
            case 1: return shape.meetFirst;
            case 2: return shape.meetOther;
            default: return NONE;
        }
    }

    public int box(int axis, int side) {
        if (!isAxis(axis) || side < 0 || side > 1 || shape.spots == 0) {
            return NOTHING;
        }
        return shape.edge(axis, side == 1);
    }

    public int near(int x, int y, int z, int what) {
        if (isBeyond(x) || isBeyond(y) || isBeyond(z) || what < 0 || what > 1 || shape.spots == 0) {
            return NONE;
        }
        int k = shape.nearest(x, y, z);
        return what == 0 ? k : root(shape.squareTo(k, x, y, z));
    }

    public int keep(int k) {
        if (k < 0 || k >= KEEPS) {
            return NONE;
        }
        return kept[k].take(shape);
    }

    public int common(int k) {
        if (k < 0 || k >= KEEPS) {
            return NONE;
        }
        return kept[k].alike(shape);
    }

    // ---- images ----

    public int image(int k) {
        if (k < 0 || k >= IMAGES) {
            return NONE;
        }
        images[k].become(now);
        imaged[k] = true;
        return now.s;
    }

    public int back(int k) {
        if (k < 0 || k >= IMAGES || !imaged[k]) {
            return NONE;
        }
        now.become(images[k]);
        drive.grant(now.given);
        past.forget();
        return now.s;
    }

    public int count(int what) {
        switch (what) {
            case 0: return way.blocks;
            case 1: return way.moves;
            case 2: return way.marks;
            case 3: return way.all;
            case 4: return now.s;
            case 5: return now.w;
            case 6: return now.u;
            case 7: return now.block;
            case 8: return now.given;
            case 9: return now.held ? 1 : 0;
            case 10: return drive.limits.reach;
            case 11: return way.jerk;
            case 12: return way.tolerance;
            case 13: return past.size;
            case 14: return tape.size;
            case 15: return now.ticked;
            default: return NONE;
        }
    }

    // ---- numbers ----

    private static boolean isAxis(int axis) {
        return axis >= 0 && axis < AXES;
    }

    private static boolean isBeyond(int place) {
        return place > FARTHEST || place < -FARTHEST;
    }

    /** The square root, downwards; 0 for what is below 0. */
    private static int root(long square) {
        long found = 0;
        for (int bit = 30; bit >= 0; bit--) {
            long more = found + (1L << bit);
            if (more * more <= square) {
                found = more;
            }
        }
        return (int) found;
    }

    /** The whole by the parts, towards 0; 0 where there are no parts. */
    private static int share(long whole, long parts) {
        return parts == 0 ? 0 : (int) (whole / parts);
    }

    private static long square(long side) {
        return side * side;
    }

    private static int within(int least, int n, int most) {
        return n < least ? least : n > most ? most : n;
    }

    /** The bytes that were fed, and the tokens in them, one behind another. */
    private static final class Tape {
        static final int END = 0;
        static final int WORD = 1;
        static final int NUMBER = 2;
        static final int LESS = 3;
        static final int STOP = 4;
        static final int WRONG = 5;
        // a number that is greater than all that may stand anywhere stays there
        static final int TOO_MUCH = 1000000;

        final int[] bytes = new int[TAPE_BYTES];
        int size;
        int kind;
        int start;
        int stop;
        int number;

        void addNumber(int n) {
            addByte(n >>> 24);
            addByte(n >>> 16);
            addByte(n >>> 8);
            addByte(n);
        }

        private void addByte(int n) {
            if (size >= 0 && size < TAPE_BYTES) {
                bytes[size] = n & 255;
                size++;
            }
        }

        void rewind() {
            stop = 0;
        }

        void next() {
            while (stop < size && isBlank(bytes[stop])) {
                stop++;
            }
            start = stop;
            if (stop >= size) {
                kind = END;
            } else if (isLetter(bytes[stop])) {
                takeWord();
            } else if (isDigit(bytes[stop])) {
                takeDigits();
            } else {
                kind = bytes[stop] == '-' ? LESS : bytes[stop] == ';' ? STOP : WRONG;
                stop++;
            }
        }

        private void takeWord() {
            kind = WORD;
            while (stop < size && isLetter(bytes[stop])) {
                stop++;
            }
        }

        private void takeDigits() {
            kind = NUMBER;
            number = 0;
            while (stop < size && isDigit(bytes[stop])) {
                number = Math.min(TOO_MUCH, number * 10 + bytes[stop] - '0');
                stop++;
            }
        }

        /** Whether this token has the letters of the word. */
        boolean reads(String word) {
            if (stop - start != word.length() || stop > size) {
                return false;
            }
            for (int i = 0; i < word.length(); i++) {
                if (bytes[start + i] != word.charAt(i)) {
                    return false;
                }
            }
            return true;
        }

        /** Whether this token has the letters that stand elsewhere on the tape. */
        boolean repeats(int from, int length) {
            if (stop - start != length || stop > size || from < 0 || from + length > size) {
                return false;
            }
            for (int i = 0; i < length; i++) {
                if (bytes[start + i] != bytes[from + i]) {
                    return false;
                }
            }
            return true;
        }

        private static boolean isBlank(int sign) {
            return sign == 32 || sign == 10;
        }

        private static boolean isLetter(int sign) {
            return sign >= 'a' && sign <= 'z';
        }

        private static boolean isDigit(int sign) {
            return sign >= '0' && sign <= '9';
        }
    }

    /** Reads the lines of a tape and tells a way by them, up to the first fault. */
    private static final class Reader {
        static final int AXES_LINE = 0;
        static final int JERK_LINE = 1;
        static final int TOLERANCE_LINE = 2;
        static final int TO = 3;
        static final int BY = 4;
        static final int TURN = 5;
        static final int MARK = 6;
        static final int AGAIN = 7;
        // kind, four numbers, feed
        static final int ROW = 6;
        static final int MOST_LETTERS = 7;

        private final Tape tape;
        private final Chords chords = new Chords();
        // one row more than there may be moves: a move is read before it is counted
        private final int[] rows = new int[(MOST_MOVES + 1) * ROW];
        private final int[] nameAt = new int[MOST_MARKS];
        private final int[] nameLength = new int[MOST_MARKS];
        private final int[] behind = new int[MOST_MARKS];
        private final boolean[] told = new boolean[3];
        private Way way;
        private int fault;
        private int lineAt;
        private boolean others;
        private int name;
        private int letters;
        private int marked;
        private int times;

        Reader(Tape tape, Way way) {
            this.tape = tape;
            this.way = way;
        }

        /** The fault (8 times its place and its kind), or NONE. */
        int read(Way into) {
            way = into;
            way.clear();
            tape.rewind();
            fault = NONE;
            others = false;
            for (int k = 0; k < told.length; k++) {
                told[k] = false;
            }
            for (int lines = 0; lines <= TAPE_BYTES && fault == NONE; lines++) {
                tape.next();
                if (tape.kind == Tape.END) {
                    return NONE;
                }
                lineAt = tape.start;
                int kind = readLine();
                if (fault != NONE) {
                    return fault;
                }
                if (kind == MARK) {
                    putMark();
                } else if (kind == AGAIN) {
                    tellAgain();
                } else if (kind >= TO) {
                    tellMove();
                }
            }
            return fault;
        }

        private void fail(int kind, int place) {
            if (fault == NONE) {
                fault = 8 * place + kind;
            }
        }

        private int readLine() {
            int kind = keyword();
            if (kind == NONE) {
                fail(1, tape.start);
                return NONE;
            }
            if (kind <= TOLERANCE_LINE) {
                readSetting(kind);
            } else if (kind <= TURN) {
                others = true;
                readMove(kind);
            } else {
                others = true;
                readName(kind);
            }
            if (fault == NONE) {
                tape.next();
                if (tape.kind != Tape.STOP) {
                    fail(1, tape.start);
                }
            }
            return kind;
        }

        /** Which of the words that begin a line this token is, or NONE. */
        private int keyword() {
            if (tape.kind != Tape.WORD) {
                return NONE;
            }
            return tape.reads("axes") ? AXES_LINE
                : tape.reads("jerk") ? JERK_LINE
                : tape.reads("tolerance") ? TOLERANCE_LINE
                : tape.reads("to") ? TO
                : tape.reads("by") ? BY
                : tape.reads("turn") ? TURN
                : tape.reads("mark") ? MARK
                : tape.reads("again") ? AGAIN
                : NONE;
        }

        private void readSetting(int kind) {
            if (kind < 0 || kind >= told.length) {
                return;
            }
            if (others) {
                fail(1, tape.start);
            } else if (told[kind]) {
                fail(3, tape.start);
            }
            told[kind] = true;
            if (kind == JERK_LINE) {
                way.jerk = readNumber(1, MOST_JERK);
            } else if (kind == TOLERANCE_LINE) {
                way.tolerance = readNumber(0, MOST_TOLERANCE);
            } else {
                for (int i = 0; i < 2 * AXES; i++) {
                    way.rates[i] = readNumber(1, i < AXES ? Way.MOST_SPEED : Way.MOST_PUSH);
                }
            }
        }

        private void readMove(int kind) {
            int row = rowOf(way.moves);
            rows[row] = kind;
            rows[row + 1] = readSigned(0, FARTHEST);
            rows[row + 2] = readSigned(0, FARTHEST);
            rows[row + 4] = 0;
            if (kind == TURN) {
                if (fault == NONE && rows[row + 1] == 0 && rows[row + 2] == 0) {
                    fail(2, tape.start);
                }
                rows[row + 3] = readSigned(1, 4);
                rows[row + 4] = readSigned(0, FARTHEST);
            } else {
                rows[row + 3] = readSigned(0, FARTHEST);
            }
            rows[row + 5] = readNumber(1, Way.MOST_SPEED);
        }

        private static int rowOf(int move) {
            return within(0, move, MOST_MOVES) * ROW;
        }

        private void readName(int kind) {
            tape.next();
            letters = tape.stop - tape.start;
            if (tape.kind != Tape.WORD || letters > MOST_LETTERS || keyword() != NONE) {
                fail(1, tape.start);
                return;
            }
            name = tape.start;
            marked = findMark();
            boolean known = marked != NONE;
            if (known == (kind == MARK)) {
                fail(3, tape.start);
            }
            if (kind == AGAIN) {
                times = readNumber(1, 3);
            }
        }

        private int findMark() {
            for (int k = 0; k < way.marks && k < MOST_MARKS; k++) {
                if (tape.repeats(nameAt[k], nameLength[k])) {
                    return k;
                }
            }
            return NONE;
        }

        private int readNumber(int least, int most) {
            if (fault != NONE) {
                return 0;
            }
            tape.next();
            return numberOf(least, most);
        }

        private int readSigned(int least, int most) {
            if (fault != NONE) {
                return 0;
            }
            tape.next();
            if (tape.kind != Tape.LESS) {
                return numberOf(least, most);
            }
            tape.next();
            return -numberOf(least, most);
        }

        private int numberOf(int least, int most) {
            if (tape.kind != Tape.NUMBER) {
                fail(1, tape.start);
                return 0;
            }
            if (tape.number < least || tape.number > most) {
                fail(2, tape.start);
            }
            return tape.number;
        }

        private void putMark() {
            int k = way.marks;
            if (k < 0 || k >= MOST_MARKS) {
                fail(4, lineAt);
                return;
            }
            nameAt[k] = name;
            nameLength[k] = letters;
            behind[k] = way.moves;
            way.marks = k + 1;
        }

        private void tellAgain() {
            if (marked < 0 || marked >= MOST_MARKS) {
                return;
            }
            int upTo = way.moves;
            for (int n = 0; n < times && fault == NONE; n++) {
                for (int move = behind[marked]; move < upTo && fault == NONE; move++) {
                    int from = rowOf(move);
                    int row = rowOf(way.moves);
                    for (int i = 0; i < ROW; i++) {
                        rows[row + i] = rows[from + i];
                    }
                    tellMove();
                }
            }
        }

        /** Tells the move in the row behind those that were told. */
        private void tellMove() {
            int row = rowOf(way.moves);
            chords.lay(way, rows, row);
            if (chords.goBeyond()) {
                fail(5, lineAt);
            } else if (way.moves >= MOST_MOVES || way.blocks + chords.goings() > MOST_BLOCKS) {
                fail(4, lineAt);
            } else {
                for (int i = 1; i <= chords.size && i < Chords.POINTS; i++) {
                    way.add(chords.xs[i], chords.ys[i], chords.zs[i], rows[row + 5]);
                }
                way.moves++;
            }
        }
    }

    /** Where the chords of one move end (at 0: where it begins). */
    private static final class Chords {
        static final int POINTS = 33;
        static final int HALVINGS = 3;

        final int[] xs = new int[POINTS];
        final int[] ys = new int[POINTS];
        final int[] zs = new int[POINTS];
        int size;

        void lay(Way way, int[] rows, int row) {
            if (row < 0 || row + 4 >= rows.length) {
                return;
            }
            xs[0] = way.last(0);
            ys[0] = way.last(1);
            zs[0] = way.last(2);
            if (rows[row] == Reader.TURN) {
                turn(rows[row + 1], rows[row + 2], rows[row + 3], rows[row + 4], way.tolerance);
            } else {
                boolean on = rows[row] == Reader.BY;
                size = 1;
                xs[1] = rows[row + 1] + (on ? xs[0] : 0);
                ys[1] = rows[row + 2] + (on ? ys[0] : 0);
                zs[1] = rows[row + 3] + (on ? zs[0] : 0);
            }
        }

        private void turn(int aside, int up, int quarters, int rise, int tolerance) {
            int x = xs[0] + aside;
            int y = ys[0] + up;
            int z = zs[0];
            int radius = root(square(aside) + square(up));
            spin(-aside, -up, quarters);
            for (int n = 0; n < HALVINGS && isCoarse(radius, tolerance); n++) {
                halve(radius);
            }
            for (int i = 0; i <= size && i < POINTS; i++) {
                xs[i] += x;
                ys[i] += y;
                zs[i] = z + share((long) rise * i, size);
            }
        }

        /** The ends of the quarters, from the centre. */
        private void spin(int x, int y, int quarters) {
            int side = quarters < 0 ? -1 : 1;
            size = Math.min(quarters * side, 4);
            xs[0] = x;
            ys[0] = y;
            for (int i = 1; i <= size; i++) {
                xs[i] = -side * ys[i - 1];
                ys[i] = side * xs[i - 1];
            }
        }

        private boolean isCoarse(int radius, int tolerance) {
            int middle = root(square((long) xs[0] + xs[1]) + square((long) ys[0] + ys[1])) / 2;
            return radius - middle > tolerance;
        }

        private void halve(int radius) {
            if (size * 2 >= POINTS) {
                return;
            }
            // from behind, so that no end is lost before it has moved
            for (int i = size; i > 0; i--) {
                xs[2 * i] = xs[i];
                ys[2 * i] = ys[i];
            }
            size *= 2;
            for (int i = 1; i < size; i += 2) {
                long x = (long) xs[i - 1] + xs[i + 1];
                long y = (long) ys[i - 1] + ys[i + 1];
                int far = root(x * x + y * y);
                xs[i] = share(x * radius, far);
                ys[i] = share(y * radius, far);
            }
        }

        boolean goBeyond() {
            for (int i = 1; i <= size && i < POINTS; i++) {
                if (isBeyond(xs[i]) || isBeyond(ys[i]) || isBeyond(zs[i])) {
                    return true;
                }
            }
            return false;
        }

        /** How many chords go anywhere. */
        int goings() {
            int n = 0;
            for (int i = 1; i <= size && i < POINTS; i++) {
                if (xs[i] != xs[i - 1] || ys[i] != ys[i - 1] || zs[i] != zs[i - 1]) {
                    n++;
                }
            }
            return n;
        }
    }

    /** A program as it was told: its settings and its blocks. */
    private static final class Way {
        static final int MOST_SPEED = 5000;
        static final int MOST_PUSH = 500;
        static final int UNIT = 32768;

        // the greatest speeds, then the greatest pushes, of X, Y, Z
        final int[] rates = new int[2 * AXES];
        // place k is where block k begins, place k + 1 where it ends
        final int[][] places = new int[AXES][MOST_BLOCKS + 1];
        final int[] lengths = new int[MOST_BLOCKS];
        final int[] ends = new int[MOST_BLOCKS];
        final int[] feeds = new int[MOST_BLOCKS];
        final int[] speeds = new int[MOST_BLOCKS];
        final int[] pushes = new int[MOST_BLOCKS];
        final int[] moveOf = new int[MOST_BLOCKS];
        // of the corner behind each block
        final int[] sharps = new int[MOST_BLOCKS];
        int jerk;
        int tolerance;
        int blocks;
        int moves;
        int marks;
        int all;

        Way() {
            clear();
        }

        void clear() {
            for (int axis = 0; axis < AXES; axis++) {
                rates[axis] = 2000;
                rates[AXES + axis] = 100;
                places[axis][0] = 0;
            }
            jerk = 10;
            tolerance = 50;
            blocks = 0;
            moves = 0;
            marks = 0;
            all = 0;
        }

        boolean has(int block) {
            return block >= 0 && block < blocks;
        }

        boolean hasCorner(int block) {
            return block >= 0 && block < blocks - 1;
        }

        int last(int axis) {
            return isAxis(axis) ? places[axis][blocks] : 0;
        }

        /** A chord of the move that is told now; what goes nowhere is no block. */
        void add(int x, int y, int z, int feed) {
            int k = blocks;
            if (k >= MOST_BLOCKS || (x == last(0) && y == last(1) && z == last(2))) {
                return;
            }
            places[0][k + 1] = x;
            places[1][k + 1] = y;
            places[2][k + 1] = z;
            blocks = k + 1;
            lengths[k] = root(square(step(k, 0)) + square(step(k, 1)) + square(step(k, 2)));
            all += lengths[k];
            ends[k] = all;
            feeds[k] = feed;
            moveOf[k] = moves;
            speeds[k] = leastRate(k, 0);
            pushes[k] = leastRate(k, AXES);
            if (k > 0) {
                sharps[k - 1] = sharpness(k - 1);
            }
        }

        int step(int block, int axis) {
            return has(block) && isAxis(axis) ? places[axis][block + 1] - places[axis][block] : 0;
        }

        private int leastRate(int block, int first) {
            int least = MOST_SPEED * UNIT;
            for (int axis = 0; axis < AXES; axis++) {
                int step = step(block, axis);
                if (step != 0) {
                    least = Math.min(least, rateAlong(block, step, rates[first + axis]));
                }
            }
            return least;
        }

        /** How fast it is along a block, if in an axis in which it goes by a step it is as fast as the rate. */
        private int rateAlong(int block, int step, int rate) {
            return share((long) rate * lengths[block], Math.abs(step));
        }

        boolean isSlowedBy(int block, int axis) {
            int step = step(block, axis);
            return step != 0 && rateAlong(block, step, rates[axis]) == speeds[block];
        }

        private int sharpness(int block) {
            long sum = 0;
            for (int axis = 0; axis < AXES; axis++) {
                int bend = share((long) step(block + 1, axis) * UNIT, lengths[block + 1])
                    - share((long) step(block, axis) * UNIT, lengths[block]);
                sum += square(bend);
            }
            return root(sum);
        }

        /** The first block whose end is behind s, the last one at the end; NONE without blocks. */
        int blockOf(int s) {
            for (int k = 0; k < blocks; k++) {
                if (ends[k] > s) {
                    return k;
                }
            }
            return blocks - 1;
        }
    }

    /** How fast each block and each corner of a way may be gone, by a tolerance, a jerk and a feed. */
    private static final class Limits {
        static final int MOST_REACH = 12;
        static final int MOST_SPEED = 100;

        Way way;
        int jerk = 1;
        int given = FIRST_GIVEN;
        int reach = MOST_REACH;
        final int[] limits = new int[MOST_BLOCKS];
        // of the corner behind each block
        final int[] cuts = new int[MOST_BLOCKS];
        final int[] paces = new int[MOST_BLOCKS];
        private final int[] passes = new int[MOST_BLOCKS + 1];

        Limits(Way way) {
            this.way = way;
        }

        void settle(Way of, int tolerance, int byJerk) {
            way = of;
            jerk = byJerk;
            reach = MOST_REACH;
            for (int k = 0; k < way.blocks; k++) {
                reach = Math.min(reach, Math.max(1, share(way.pushes[k], jerk)));
            }
            for (int k = 0; k + 1 < way.blocks; k++) {
                cuts[k] = cutOf(k, tolerance);
                paces[k] = paceOf(k);
            }
        }

        private int cutOf(int k, int tolerance) {
            if (way.sharps[k] == 0) {
                return 0;
            }
            int half = Math.min(way.lengths[k], way.lengths[k + 1]) / 2;
            return Math.min(half, share(4L * tolerance * Way.UNIT, way.sharps[k]));
        }

        private int paceOf(int k) {
            if (way.sharps[k] == 0) {
                return MOST_SPEED;
            }
            int push = Math.min(way.pushes[k], way.pushes[k + 1]);
            // the quotient is wider than an int where the corner is all but straight
            int speed = root(2L * cuts[k] * push * Way.UNIT / Math.max(1, way.sharps[k]));
            return within(1, share(speed, jerk), MOST_SPEED);
        }

        /** Whether any limit is another one than before. */
        boolean grant(int percent) {
            given = percent;
            boolean other = false;
            for (int k = 0; k < way.blocks; k++) {
                int limit = within(1, freeLimit(k), MOST_SPEED);
                other = other || limit != limits[k];
                limits[k] = limit;
            }
            return other;
        }

        private int fedSpeed(int k) {
            return way.feeds[k] * given / 100;
        }

        /** The limit before it is brought to 1 at least and 100 at most. */
        private int freeLimit(int k) {
            return share(Math.min(fedSpeed(k), way.speeds[k]), jerk);
        }

        int bindOf(int k) {
            int free = freeLimit(k);
            if (free < 1 || free > MOST_SPEED) {
                return 4;
            }
            if (fedSpeed(k) <= way.speeds[k]) {
                return 3;
            }
            return way.isSlowedBy(k, 0) ? 0 : way.isSlowedBy(k, 1) ? 1 : 2;
        }

        /** PASSES: the speed with which a block may begin. */
        int passInto(int block) {
            int n = way.blocks;
            passes[0] = 0;
            passes[n] = 0;
            for (int k = 1; k < n; k++) {
                passes[k] = paces[k - 1] * jerk;
            }
            for (int k = n - 1; k > 0; k--) {
                passes[k] = Math.min(passes[k], speedOver(k, passes[k + 1]));
            }
            for (int k = 0; k < n; k++) {
                passes[k + 1] = Math.min(passes[k + 1], speedOver(k, passes[k]));
            }
            return way.has(block) ? passes[block] : NONE;
        }

        /** How fast it is at one end of a block at most, if it is so fast at the other. */
        private int speedOver(int block, int speed) {
            return root(square(speed) + 2L * way.pushes[block] * way.lengths[block]);
        }

        int placeAt(int s, int axis) {
            int block = way.blockOf(s);
            if (!way.has(block) || !isAxis(axis)) {
                return 0;
            }
            if (isRounded(block - 1, s)) {
                return roundedAt(block - 1, s, axis);
            }
            if (isRounded(block, s)) {
                return roundedAt(block, s, axis);
            }
            int begin = way.ends[block] - way.lengths[block];
            return way.places[axis][block] + part(block, s - begin, axis);
        }

        private int part(int block, int length, int axis) {
            return share((long) way.step(block, axis) * length, way.lengths[block]);
        }

        private boolean isRounded(int k, int s) {
            return way.hasCorner(k) && cuts[k] > 0
                && s >= way.ends[k] - cuts[k] && s <= way.ends[k] + cuts[k];
        }

        private int roundedAt(int k, int s, int axis) {
            long c = way.places[axis][k + 1];
            long p = c - part(k, cuts[k], axis);
            long q = c + part(k + 1, cuts[k], axis);
            long whole = 2L * cuts[k];
            long t = s - (way.ends[k] - cuts[k]);
            long left = whole - t;
            return share(p * left * left + c * 2 * t * left + q * t * t, whole * whole);
        }
    }

    /** How it goes, tick by tick, within limits. */
    private static final class Drive {
        // far above the ticks that brakes take from 112 with 12 to rest
        static final int MOST_BRAKES = 1000;
        static final int SPEEDS = 101;
        static final int PUSHES = 2 * Limits.MOST_REACH + 1;

        final Limits limits;
        // how far brakes go from a speed and a push, by jerk, and one; 0: not known yet
        private final int[] far = new int[SPEEDS * PUSHES];
        private int farReach = Limits.MOST_REACH;

        Drive(Way way) {
            limits = new Limits(way);
        }

        void settle(Way way, int tolerance, int jerk) {
            limits.settle(way, tolerance, jerk);
            if (limits.reach != farReach) {
                farReach = limits.reach;
                for (int i = 0; i < far.length; i++) {
                    far[i] = 0;
                }
            }
        }

        boolean grant(int given) {
            return limits.grant(given);
        }

        boolean isDone(State x) {
            return x.rests() && x.s >= limits.way.all;
        }

        boolean isAtLimit(State x) {
            return limits.way.has(x.block) && x.w == limits.limits[x.block];
        }

        /** One tick: by what u has become more. */
        int tick(State x) {
            boolean rests = x.rests();
            if (rests && (x.held || x.s >= limits.way.all)) {
                return 0;
            }
            int least = x.held ? 2 : rests ? 1 : -1;
            for (int j = 1; j >= least; j--) {
                if (isFit(x, j)) {
                    return go(x, j);
                }
            }
            if (rests) {
                creep(x);
                return 0;
            }
            return go(x, brake(x.w, x.u));
        }

        private void creep(State x) {
            if (limits.way.all - x.s < 2 * limits.jerk) {
                x.s = limits.way.all;
                x.block = limits.way.blocks - 1;
            }
        }

        private int go(State x, int j) {
            x.u += j;
            x.w += x.u;
            x.s += x.w * limits.jerk;
            while (x.block >= 0 && x.block + 1 < limits.way.blocks && x.s >= limits.way.ends[x.block]) {
                x.block++;
            }
            return j;
        }

        /** Whether it may go so, and is safe behind it. */
        private boolean isFit(State x, int j) {
            int u = x.u + j;
            int w = x.w + u;
            if (u > limits.reach || !bears(w, u)) {
                return false;
            }
            int s = x.s + w * limits.jerk;
            int block = reached(x.block, s, w);
            return block != NONE && isSafe(s, w, u, block);
        }

        private boolean bears(int w, int u) {
            return u >= -limits.reach && w >= 0 && (u >= 0 || 2 * w >= u * (u + 1));
        }

        /** The least j that a brake may go by. */
        private int brake(int w, int u) {
            return bears(w + u - 1, u - 1) ? -1 : bears(w + u, u) ? 0 : 1;
        }

        /** The block of s, if all blocks and corners up to it bear the speed w; else NONE. */
        private int reached(int from, int s, int w) {
            if (s > limits.way.all || !limits.way.has(from) || w > limits.limits[from]) {
                return NONE;
            }
            int block = from;
            while (block + 1 < limits.way.blocks && s >= limits.way.ends[block]) {
                if (w > limits.paces[block] || w > limits.limits[block + 1]) {
                    return NONE;
                }
                block++;
            }
            return block;
        }

        private boolean isSafe(int s, int w, int u, int block) {
            int end = s + farness(w, u) * limits.jerk;
            if (end > limits.way.all) {
                return false;
            }
            int peak = w + (u > 0 ? u * (u - 1) / 2 : 0);
            boolean inBlock = !limits.way.hasCorner(block) || end < limits.way.ends[block];
            if (inBlock) {
                return peak <= limits.limits[block];
            }
            return brakesBear(s, w, u, block);
        }

        private boolean brakesBear(int s, int w, int u, int block) {
            for (int n = 0; n < MOST_BRAKES; n++) {
                if (w == 0 && u == 0) {
                    return true;
                }
                u += brake(w, u);
                w += u;
                s += w * limits.jerk;
                block = reached(block, s, w);
                if (block == NONE) {
                    return false;
                }
            }
            return false;
        }

        /** How far brakes go to rest, by jerk (w is no more than a limit here, and so in the table). */
        private int farness(int w, int u) {
            int i = (u + Limits.MOST_REACH) * SPEEDS + w;
            if (w < 0 || w >= SPEEDS || i < 0 || i >= far.length) {
                return 0;
            }
            int sum = far[i] - 1;
            if (sum < 0) {
                sum = 0;
                for (int n = 0; n < MOST_BRAKES && (w != 0 || u != 0); n++) {
                    u += brake(w, u);
                    w += u;
                    sum += w;
                }
                far[i] = sum + 1;
            }
            return sum;
        }

        void goOn(State x, int n) {
            for (int i = 0; i < n && !isDone(x); i++) {
                tick(x);
            }
        }

        /** How many ticks, if it is done behind so many at most; else NEVER. */
        int ticksToEnd(State x, int most) {
            for (int n = 0; n <= most; n++) {
                if (isDone(x)) {
                    return n;
                }
                tick(x);
            }
            return NEVER;
        }

        /** How many ticks brakes take to rest. */
        int brakeToRest(State x) {
            for (int n = 0; n < MOST_BRAKES; n++) {
                if (x.rests()) {
                    return n;
                }
                go(x, brake(x.w, x.u));
            }
            return MOST_BRAKES;
        }
    }

    /** Where it is and how it goes at one moment. */
    private static final class State {
        int s;
        int w;
        int u;
        // the block of s, kept so that it need not be sought in each tick
        int block = NONE;
        int given = FIRST_GIVEN;
        boolean held;
        int ticked;

        void begin(Way way, int byGiven) {
            s = 0;
            w = 0;
            u = 0;
            block = way.blockOf(0);
            given = byGiven;
            held = false;
        }

        void become(State other) {
            s = other.s;
            w = other.w;
            u = other.u;
            block = other.block;
            given = other.given;
            held = other.held;
            ticked = other.ticked;
        }

        boolean rests() {
            return w == 0 && u == 0;
        }
    }

    /** How it was before each of the last acts. */
    private static final class Past {
        static final int MOST = 20;

        private final State[] states = new State[MOST];
        private int next;
        int size;

        Past() {
            for (int i = 0; i < MOST; i++) {
                states[i] = new State();
            }
        }

        void note(State x) {
            if (next < 0 || next >= MOST) {
                return;
            }
            states[next].become(x);
            next = next + 1 == MOST ? 0 : next + 1;
            size = Math.min(MOST, size + 1);
        }

        void recall(State x) {
            int last = next == 0 ? MOST - 1 : next - 1;
            if (size == 0 || last < 0 || last >= MOST) {
                return;
            }
            x.become(states[last]);
            next = last;
            size--;
        }

        void forget() {
            size = 0;
        }
    }

    /** What a way is like, however it is gone: spots, legs, layers, meetings. */
    private static final class Shape {
        private Way way;
        final int[][] spotAt = new int[AXES][MOST_BLOCKS + 1];
        final int[] often = new int[MOST_BLOCKS + 1];
        // of each place of the way, which spot it is
        private final int[] spotOf = new int[MOST_BLOCKS + 1];
        int spots;
        // of each block the first one that goes as it does, or back
        final int[] firsts = new int[MOST_BLOCKS];
        int again;
        final int[] layerZ = new int[MOST_BLOCKS];
        final int[] layerBlocks = new int[MOST_BLOCKS];
        final int[] layerLengths = new int[MOST_BLOCKS];
        int layers;
        int twos;
        int meetFirst;
        int meetOther;

        Shape(Way way) {
            this.way = way;
        }

        void look(Way at) {
            way = at;
            findSpots();
            findFirsts();
            findLayers();
            findMeetings();
        }

        private void findSpots() {
            spots = 0;
            if (way.blocks == 0) {
                return;
            }
            for (int i = 0; i <= way.blocks; i++) {
                int x = way.places[0][i];
                int y = way.places[1][i];
                int z = way.places[2][i];
                int k = find(x, y, z);
                if (k == NONE) {
                    k = spots;
                    spotAt[0][k] = x;
                    spotAt[1][k] = y;
                    spotAt[2][k] = z;
                    often[k] = 0;
                    spots++;
                }
                often[k]++;
                spotOf[i] = k;
            }
        }

        int find(int x, int y, int z) {
            for (int k = 0; k < spots; k++) {
                if (spotAt[0][k] == x && spotAt[1][k] == y && spotAt[2][k] == z) {
                    return k;
                }
            }
            return NONE;
        }

        private void findFirsts() {
            again = 0;
            for (int k = 0; k < way.blocks; k++) {
                firsts[k] = k;
                for (int i = 0; i < k && firsts[k] == k; i++) {
                    if (isSameLeg(i, k)) {
                        firsts[k] = i;
                        again++;
                    }
                }
            }
        }

        private boolean isSameLeg(int i, int k) {
            return (spotOf[i] == spotOf[k] && spotOf[i + 1] == spotOf[k + 1])
                || (spotOf[i] == spotOf[k + 1] && spotOf[i + 1] == spotOf[k]);
        }

        private void findLayers() {
            layers = 0;
            for (int k = 0; k < way.blocks; k++) {
                if (way.step(k, 2) == 0) {
                    int layer = layerOf(way.places[2][k]);
                    layerBlocks[layer]++;
                    layerLengths[layer] += way.lengths[k];
                }
            }
        }

        /** The layer of a Z, a new one if there is none yet. */
        private int layerOf(int z) {
            for (int i = 0; i < layers; i++) {
                if (layerZ[i] == z) {
                    return i;
                }
            }
            int layer = Math.min(layers, MOST_BLOCKS - 1);
            layerZ[layer] = z;
            layerBlocks[layer] = 0;
            layerLengths[layer] = 0;
            layers = layer + 1;
            return layer;
        }

        private void findMeetings() {
            twos = 0;
            meetFirst = NEVER;
            meetOther = NEVER;
            for (int i = 0; i < way.blocks; i++) {
                for (int k = i + 2; k < way.blocks; k++) {
                    if (isOneLayer(i, k) && doMeet(i, k)) {
                        meetFirst = twos == 0 ? i : meetFirst;
                        meetOther = twos == 0 ? k : meetOther;
                        twos++;
                    }
                }
            }
        }

        private boolean isOneLayer(int i, int k) {
            return way.step(i, 2) == 0 && way.step(k, 2) == 0 && way.places[2][i] == way.places[2][k];
        }

        private boolean doMeet(int i, int k) {
            return doOverlap(i, k, 0) && doOverlap(i, k, 1)
                && side(i, k) * side(i, k + 1) <= 0 && side(k, i) * side(k, i + 1) <= 0;
        }

        private boolean doOverlap(int i, int k, int axis) {
            int[] row = way.places[axis];
            return Math.min(row[i], row[i + 1]) <= Math.max(row[k], row[k + 1])
                && Math.min(row[k], row[k + 1]) <= Math.max(row[i], row[i + 1]);
        }

        /** On which side of a block's line a place is: -1, 1, or 0 on it. */
        private int side(int block, int spot) {
            long dx = way.places[0][spot] - way.places[0][block];
            long dy = way.places[1][spot] - way.places[1][block];
            long turn = way.step(block, 0) * dy - way.step(block, 1) * dx;
            return turn < 0 ? -1 : turn > 0 ? 1 : 0;
        }

        int edge(int axis, boolean greatest) {
            if (!isAxis(axis)) {
                return NOTHING;
            }
            int found = spotAt[axis][0];
            for (int k = 1; k < spots; k++) {
                int at = spotAt[axis][k];
                found = greatest ? Math.max(found, at) : Math.min(found, at);
            }
            return found;
        }

        int nearest(int x, int y, int z) {
            int found = 0;
            for (int k = 1; k < spots; k++) {
                if (squareTo(k, x, y, z) < squareTo(found, x, y, z)) {
                    found = k;
                }
            }
            return found;
        }

        long squareTo(int k, int x, int y, int z) {
            if (k < 0 || k > MOST_BLOCKS) {
                return 0;
            }
            return square(spotAt[0][k] - x) + square(spotAt[1][k] - y) + square(spotAt[2][k] - z);
        }
    }

    /** The legs that were kept. */
    private static final class Kept {
        // X, Y, Z of one end, then of the other
        private final int[][] rows = new int[2 * AXES][MOST_BLOCKS];
        private int size = NEVER;

        int take(Shape shape) {
            size = 0;
            for (int k = 0; k < shape.way.blocks; k++) {
                if (shape.firsts[k] == k) {
                    for (int axis = 0; axis < AXES; axis++) {
                        rows[axis][size] = shape.way.places[axis][k];
                        rows[AXES + axis][size] = shape.way.places[axis][k + 1];
                    }
                    size++;
                }
            }
            return size;
        }

        /** How many legs of a shape were kept; NEVER if nothing ever was. */
        int alike(Shape shape) {
            if (size == NEVER) {
                return NEVER;
            }
            int n = 0;
            for (int k = 0; k < shape.way.blocks; k++) {
                if (shape.firsts[k] == k && holds(shape.way, k)) {
                    n++;
                }
            }
            return n;
        }

        private boolean holds(Way way, int block) {
            for (int i = 0; i < size; i++) {
                if ((isEnd(i, 0, way, block) && isEnd(i, AXES, way, block + 1))
                    || (isEnd(i, 0, way, block + 1) && isEnd(i, AXES, way, block))) {
                    return true;
                }
            }
            return false;
        }

        private boolean isEnd(int i, int first, Way way, int at) {
            return rows[first][i] == way.places[0][at]
                && rows[first + 1][i] == way.places[1][at]
                && rows[first + 2][i] == way.places[2][at];
        }
    }

    /** The least ways to rest, found once, when one is first asked for. */
    private static final class Least {
        static final int MOST_W = 40;
        static final int MOST_U = 6;
        static final int SPEEDS = 61;
        static final int PUSHES = 2 * MOST_U + 1;
        static final int NO_WAY = 1000000000;
        static final int MOST_ROUNDS = 1000;

        private final int[] sums = new int[SPEEDS * PUSHES];
        private boolean found;

        int wayFrom(int w, int u) {
            if (w < 0 || w > MOST_W || u < -MOST_U || u > MOST_U) {
                return NONE;
            }
            if (!found) {
                findAll();
                found = true;
            }
            int sum = sumOf(w, u);
            return sum >= NO_WAY ? NEVER : sum;
        }

        private int sumOf(int w, int u) {
            if (w < 0 || w >= SPEEDS || u < -MOST_U || u > MOST_U) {
                return NO_WAY;
            }
            return sums[(u + MOST_U) * SPEEDS + w];
        }

        private void findAll() {
            for (int i = 0; i < sums.length; i++) {
                sums[i] = NO_WAY;
            }
            sums[MOST_U * SPEEDS] = 0;
            boolean better = true;
            for (int n = 0; n < MOST_ROUNDS && better; n++) {
                better = false;
                for (int u = -MOST_U; u <= MOST_U; u++) {
                    for (int w = 0; w < SPEEDS; w++) {
                        better = improve(w, u) || better;
                    }
                }
            }
        }

        private boolean improve(int w, int u) {
            int sum = sumOf(w, u);
            int least = sum;
            for (int j = -1; j <= 1; j++) {
                int next = sumOf(w + u + j, u + j);
                if (next < NO_WAY) {
                    least = Math.min(least, next + w + u + j);
                }
            }
            if (least < sum) {
                sums[(u + MOST_U) * SPEEDS + w] = least;
            }
            return least < sum;
        }
    }
}
