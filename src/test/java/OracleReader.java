import java.util.ArrayList;
import java.util.HashMap;
import java.util.List;
import java.util.Map;
import java.util.Set;
import java.util.regex.Matcher;
import java.util.regex.Pattern;

/** Term I once more: all tokens first, then lines, then moves. */
final class OracleReader {
    static final class Fault extends Exception {
        final int number;

        Fault(int place, int kind) {
            super(null, null, false, false);
            number = 8 * place + kind;
        }
    }

    private static final class Token {
        String text;
        int place;

        boolean isWord() {
            return text.matches("[a-z]+");
        }

        boolean isNumber() {
            return text.matches("[0-9]+");
        }
    }

    private static final class Move {
        String kind;
        int[] n = new int[4];
        int feed;
    }

    private static final Set<String> BEGINS =
        Set.of("axes", "jerk", "tolerance", "to", "by", "turn", "mark", "again");

    private final List<Token> tokens = new ArrayList<>();
    private int at;
    private final Oracle.Program p = new Oracle.Program();
    private final List<Move> moves = new ArrayList<>();
    private final Map<String, Integer> marks = new HashMap<>();
    private int[] here = {0, 0, 0};

    OracleReader(String text) {
        Matcher m = Pattern.compile("[a-z]+|[0-9]+|[^ \n]", Pattern.DOTALL).matcher(text);
        while (m.find()) {
            Token t = new Token();
            t.text = m.group();
            t.place = m.start();
            tokens.add(t);
        }
        Token end = new Token();
        end.text = "";
        end.place = text.length();
        tokens.add(end);
    }

    private Token peek() {
        return tokens.get(at);
    }

    private Token take() {
        Token t = tokens.get(at);
        at = Math.min(at + 1, tokens.size() - 1);
        return t;
    }

    Oracle.Program read() throws Fault {
        Set<String> settings = new java.util.HashSet<>();
        boolean others = false;
        while (!peek().text.isEmpty()) {
            Token word = take();
            if (!BEGINS.contains(word.text)) {
                throw new Fault(word.place, 1);
            }
            if (Set.of("axes", "jerk", "tolerance").contains(word.text)) {
                if (others) {
                    throw new Fault(word.place, 1);
                }
                if (!settings.add(word.text)) {
                    throw new Fault(word.place, 3);
                }
                setting(word.text);
                stop();
            } else {
                others = true;
                line(word);
            }
        }
        p.moves = moves.size();
        p.marks = marks.size();
        return p;
    }

    private void setting(String word) throws Fault {
        if (word.equals("axes")) {
            for (int i = 0; i < 6; i++) {
                p.axes[i] = number(false, 1, i < 3 ? 5000 : 500);
            }
        } else if (word.equals("jerk")) {
            p.jerk = number(false, 1, 50);
        } else {
            p.tolerance = number(false, 0, 2000);
        }
    }

    private void stop() throws Fault {
        Token t = take();
        if (!t.text.equals(";")) {
            throw new Fault(t.place, 1);
        }
    }

    private int number(boolean signed, int least, int most) throws Fault {
        Token t = take();
        boolean less = signed && t.text.equals("-");
        if (less) {
            t = take();
        }
        if (!t.isNumber()) {
            throw new Fault(t.place, 1);
        }
        java.math.BigInteger n = new java.math.BigInteger(t.text);
        if (n.compareTo(Oracle.big(least)) < 0 || n.compareTo(Oracle.big(most)) > 0) {
            throw new Fault(t.place, 2);
        }
        return less ? -n.intValue() : n.intValue();
    }

    private void line(Token word) throws Fault {
        if (word.text.equals("mark") || word.text.equals("again")) {
            Token name = take();
            if (!name.text.matches("[a-z]{1,7}") || BEGINS.contains(name.text)) {
                throw new Fault(name.place, 1);
            }
            if (word.text.equals("mark") == marks.containsKey(name.text)) {
                throw new Fault(name.place, 3);
            }
            int times = word.text.equals("again") ? number(false, 1, 3) : 0;
            stop();
            if (times == 0) {
                if (marks.size() == 8) {
                    throw new Fault(word.place, 4);
                }
                marks.put(name.text, moves.size());
                return;
            }
            List<Move> part = new ArrayList<>(moves.subList(marks.get(name.text), moves.size()));
            for (int i = 0; i < times; i++) {
                for (Move m : part) {
                    tell(m, word.place);
                }
            }
            return;
        }
        Move m = new Move();
        m.kind = word.text;
        m.n[0] = number(true, 0, 100000);
        m.n[1] = number(true, 0, 100000);
        if (m.kind.equals("turn")) {
            if (m.n[0] == 0 && m.n[1] == 0) {
                throw new Fault(tokens.get(at - 1).place, 2);
            }
            m.n[2] = number(true, 1, 4);
            m.n[3] = number(true, 0, 100000);
        } else {
            m.n[2] = number(true, 0, 100000);
        }
        m.feed = number(false, 1, 5000);
        stop();
        tell(m, word.place);
    }

    private void tell(Move m, int place) throws Fault {
        List<int[]> ends = new ArrayList<>();
        if (m.kind.equals("to")) {
            ends.add(new int[] {m.n[0], m.n[1], m.n[2]});
        } else if (m.kind.equals("by")) {
            ends.add(new int[] {here[0] + m.n[0], here[1] + m.n[1], here[2] + m.n[2]});
        } else {
            turn(m, ends);
        }
        List<Oracle.Block> blocks = new ArrayList<>();
        int[] from = here;
        for (int[] end : ends) {
            for (int n : end) {
                if (n < -100000 || n > 100000) {
                    throw new Fault(place, 5);
                }
            }
            if (!Oracle.same(from, end)) {
                Oracle.Block b = new Oracle.Block();
                b.a = from;
                b.b = end;
                b.feed = m.feed;
                b.move = moves.size();
                blocks.add(b);
            }
            from = end;
        }
        if (moves.size() + 1 > 40 || p.blocks.size() + blocks.size() > 64) {
            throw new Fault(place, 4);
        }
        moves.add(m);
        p.blocks.addAll(blocks);
        here = from;
    }

    private void turn(Move m, List<int[]> ends) {
        long cx = here[0] + (long) m.n[0];
        long cy = here[1] + (long) m.n[1];
        List<long[]> v = new ArrayList<>();
        v.add(new long[] {-m.n[0], -m.n[1]});
        for (int i = 0; i < Math.abs(m.n[2]); i++) {
            long[] a = v.get(i);
            v.add(m.n[2] > 0 ? new long[] {-a[1], a[0]} : new long[] {a[1], -a[0]});
        }
        long radius = Oracle.root(Oracle.sq(m.n[0]) + Oracle.sq(m.n[1]));
        for (int h = 0; h < 3; h++) {
            long half = farOf(v.get(0), v.get(1)) / 2;
            if (radius - half <= p.tolerance) {
                break;
            }
            List<long[]> finer = new ArrayList<>();
            for (int i = 0; i < v.size(); i++) {
                if (i > 0) {
                    long[] a = v.get(i - 1);
                    long[] b = v.get(i);
                    long far = farOf(a, b);
                    finer.add(new long[] {(a[0] + b[0]) * radius / far, (a[1] + b[1]) * radius / far});
                }
                finer.add(v.get(i));
            }
            v = finer;
        }
        int n = v.size() - 1;
        for (int i = 1; i <= n; i++) {
            ends.add(new int[] {(int) (cx + v.get(i)[0]), (int) (cy + v.get(i)[1]), here[2] + m.n[3] * i / n});
        }
    }

    private static long farOf(long[] a, long[] b) {
        return Oracle.root(Oracle.sq(a[0] + b[0]) + Oracle.sq(a[1] + b[1]));
    }
}
