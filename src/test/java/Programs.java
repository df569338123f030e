import java.util.ArrayList;
import java.util.List;
import java.util.Random;

/** Texts of programs, right ones and spoilt ones, by a seed. */
final class Programs {
    private static final String[] NAMES = {"a", "b", "part", "abcdefg", "x", "y", "hole", "rim", "z"};

    private final Random random;
    private int reach;
    private int rise;
    private boolean coarse;
    private final List<String> marked = new ArrayList<>();

    Programs(Random random) {
        this.random = random;
    }

    String next() {
        reach = new int[] {3, 20, 300, 3000, 50000, 100000}[random.nextInt(6)];
        rise = random.nextInt(3) == 0 ? reach : random.nextInt(3) == 0 ? 5 : 0;
        coarse = random.nextInt(3) == 0;
        marked.clear();
        StringBuilder text = new StringBuilder();
        settings(text);
        int lines = 1 + random.nextInt(random.nextInt(3) == 0 ? 50 : 12);
        for (int i = 0; i < lines && text.length() < 360; i++) {
            line(text);
        }
        if (random.nextInt(6) == 0) {
            spoil(text);
        }
        if (text.length() > 400) {
            text.setLength(400);
        }
        return text.toString();
    }

    private void settings(StringBuilder text) {
        int order = random.nextInt(6);
        for (int i = 0; i < 3; i++) {
            int which = (order + i * (order < 3 ? 1 : 2)) % 3;
            if (random.nextInt(2) == 0) {
                setting(text, which);
            }
        }
        if (random.nextInt(40) == 0) {
            setting(text, random.nextInt(3));
        }
    }

    private void setting(StringBuilder text, int which) {
        if (which == 0) {
            text.append("axes");
            for (int i = 0; i < 6; i++) {
                int most = i < 3 ? 5000 : 500;
                text.append(' ').append(edgy(1, random.nextInt(3) == 0 ? Math.min(most, 60) : most));
            }
        } else if (which == 1) {
            text.append("jerk ").append(edgy(1, random.nextBoolean() ? 50 : 12));
        } else {
            text.append("tolerance ").append(edgy(0, random.nextBoolean() ? 2000 : 100));
        }
        text.append(random.nextInt(4) == 0 ? " ;\n" : ";");
    }

    /** A number between two others, or, seldom, one just outside. */
    private int edgy(int least, int most) {
        int dice = random.nextInt(1200);
        if (dice < 1) {
            return Math.max(0, least - 1);
        }
        if (dice < 2) {
            return most + 1;
        }
        if (dice < 80) {
            return least;
        }
        if (dice < 160) {
            return most;
        }
        return least + random.nextInt(most - least + 1);
    }

    private void line(StringBuilder text) {
        int dice = random.nextInt(20);
        if (dice < 7) {
            move(text, "to", reach);
        } else if (dice < 13) {
            move(text, "by", Math.max(1, reach / 3));
        } else if (dice < 15) {
            turn(text);
        } else if (dice < 17) {
            text.append("mark ").append(markName());
        } else if (dice < 19) {
            if (marked.isEmpty() && random.nextInt(20) != 0) {
                return;
            }
            text.append("again ").append(againName()).append(' ').append(edgy(1, 3));
        } else {
            if (random.nextInt(30) == 0) {
                setting(text, random.nextInt(3));
            }
            return;
        }
        text.append(random.nextInt(6) == 0 ? " ;\n" : ";");
    }

    private String markName() {
        String name = NAMES[random.nextInt(NAMES.length)];
        for (int i = 0; i < NAMES.length && marked.contains(name) && random.nextInt(20) != 0; i++) {
            name = NAMES[i];
        }
        marked.add(name);
        return name;
    }

    private String againName() {
        return marked.isEmpty() || random.nextInt(60) == 0 ? NAMES[random.nextInt(NAMES.length)]
            : marked.get(random.nextInt(marked.size()));
    }

    private void move(StringBuilder text, String word, int far) {
        text.append(word).append(' ').append(place(far)).append(' ').append(place(far)).append(' ')
            .append(place(rise)).append(' ').append(feed());
    }

    private void turn(StringBuilder text) {
        int far = Math.max(1, reach / 4);
        text.append("turn ").append(place(far)).append(' ').append(place(far)).append(' ');
        text.append(random.nextBoolean() ? "-" : "").append(edgy(1, 4)).append(' ');
        text.append(place(rise)).append(' ').append(feed());
    }

    private String place(int far) {
        int n = far == 0 ? 0 : random.nextInt(far + 1);
        if (coarse && far >= 4) {
            n = n / (far / 4) * (far / 4);
        }
        if (random.nextInt(4) == 0) {
            n = 0;
        }
        if (random.nextInt(2000) == 0) {
            n = 100001;
        }
        String sign = random.nextInt(3) == 0 ? random.nextInt(5) == 0 ? "- " : "-" : "";
        return sign + n;
    }

    private int feed() {
        return edgy(1, random.nextInt(3) == 0 ? 100 : random.nextInt(2) == 0 ? 1000 : 5000);
    }

    private void spoil(StringBuilder text) {
        String signs = ";;--  \nabtoz0199999(A\u00e9\u0000\t";
        int at = random.nextInt(text.length() + 1);
        char sign = signs.charAt(random.nextInt(signs.length()));
        switch (random.nextInt(3)) {
            case 0:
                text.insert(at, sign);
                break;
            case 1:
                if (at < text.length()) {
                    text.setCharAt(at, sign);
                }
                break;
            default:
                text.setLength(at);
        }
    }
}
