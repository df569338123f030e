/** Promises 19 and 34 to 36: the least way, images, counts; and calls with numbers of every kind. */
public final class StateTest {
    public static void main(String[] args) {
        least();
        leastByAllRows();
        images();
        imagesWithoutProgram();
        counts();
        oddNumbers();
        Desk.finish("StateTest");
    }

    private static void least() {
        PathRide ride = new PathRide();
        int[][] leasts = {{0, 0, 0}, {0, 1, 0}, {1, 0, 0}, {1, 1, 1}, {0, 2, 2}, {2, 0, 1}, {3, 0, 3}, {6, 0, 9},
            {0, -1, 0}, {1, -1, 0}, {1, -2, 0}, {2, -2, 1}, {3, -3, 1}, {0, -2, -2}, {2, -3, -2}, {0, -6, -2}};
        for (int[] row : leasts) {
            Desk.due("least " + row[0] + " " + row[1], ride.least(row[0], row[1]), row[2]);
        }
        int[][] none = {{-1, 0}, {41, 0}, {0, 7}, {0, -7}, {Integer.MIN_VALUE, 0}, {0, Integer.MIN_VALUE},
            {Integer.MAX_VALUE, 0}, {0, Integer.MAX_VALUE}};
        for (int[] row : none) {
            Desk.due("least " + row[0] + " " + row[1], ride.least(row[0], row[1]), -1);
        }
        Desk.due("the greatest has a way", ride.least(40, 6) > 0, true);
    }

    /** Each sum is the least over one going and the sum behind it. */
    private static void leastByAllRows() {
        for (int w = 0; w <= 30; w++) {
            PathRide ride = new PathRide();
            for (int u = -6; u <= 6; u++) {
                int best = w == 0 && u == 0 ? 0 : Integer.MAX_VALUE;
                for (int j = -1; j <= 1; j++) {
                    int v = u + j;
                    if (v >= -6 && v <= 6 && w + v >= 0 && ride.least(w + v, v) >= 0) {
                        best = Math.min(best, w + v + ride.least(w + v, v));
                    }
                }
                Desk.due("least " + w + " " + u, ride.least(w, u), best == Integer.MAX_VALUE ? -2 : best);
            }
        }
    }

    private static void images() {
        PathRide ride = Desk.riding("to 1000 0 0 1000;");
        Desk.due("no image 0", ride.back(0), -1);
        ride.ticks(3);
        ride.give(50);
        Desk.due("image 0", ride.image(0), 100);
        Desk.due("acts stay", ride.count(13), 4);
        Desk.due("image -1", ride.image(-1), -1);
        Desk.due("image 3", ride.image(3), -1);
        ride.hold();
        ride.ticks(2);
        int s = ride.count(4);
        Desk.due("image 2", ride.image(2), s);
        ride.letGo();
        ride.give(120);
        ride.ticks(60);
        Desk.due("back 1, none", ride.back(1), -1);
        Desk.due("back -1", ride.back(-1), -1);
        Desk.due("back 3", ride.back(3), -1);
        Desk.due("nothing happened", ride.count(4), 1000);
        Desk.due("back 2", ride.back(2), s);
        Desk.due("held", ride.count(9), 1);
        Desk.due("given", ride.count(8), 50);
        Desk.due("ticks that were", ride.count(15), 5);
        Desk.due("nothing can be undone", ride.count(13), 0);
        Desk.due("nothing can be undone", ride.undo(), -2);
        Desk.due("back 0", ride.back(0), 100);
        int[] counts = {100, 6, 3, 0, 50, 0};
        for (int i = 0; i < counts.length; i++) {
            Desk.due("count " + (i + 4), ride.count(i + 4), counts[i]);
        }
        Desk.due("ticks that were", ride.count(15), 3);
        Desk.due("limit", ride.block(0, 7), 50);
        ride.ticks(1);
        Desk.due("undo comes to the image", ride.undo(), 0);
        Desk.due("s", ride.count(4), 100);
        ride.ticks(2);
        Desk.due("an image in place of another", ride.image(0), ride.count(4));
        s = ride.count(4);
        ride.ticks(1);
        Desk.due("back 0 again", ride.back(0), s);
        Desk.due("the block of s", ride.count(7), 0);
    }

    private static void imagesWithoutProgram() {
        PathRide ride = new PathRide();
        ride.give(7);
        ride.hold();
        Desk.due("image 1", ride.image(1), 0);
        ride.letGo();
        ride.give(9);
        Desk.due("back 1", ride.back(1), 0);
        Desk.due("given", ride.count(8), 7);
        Desk.due("held", ride.count(9), 1);
        Desk.due("a fault", Desk.tell(ride, "x"), -3);
        Desk.due("back 1 still", ride.back(1), 0);
        Desk.due("a program", Desk.tell(ride, ""), 0);
        Desk.due("back 1, gone", ride.back(1), -1);
    }

    private static void counts() {
        PathRide ride = Desk.riding("axes 900 900 900 70 70 70;jerk 7;tolerance 33;mark a;mark b;to 3000 0 0 600;"
            + "to 3000 0 0 600;to 3000 400 0 600;");
        ride.ticks(5);
        // u by 1 more in each tick, by jerk 7
        int[] goes = {7 * (1 + 3 + 6 + 10 + 15), 15, 5};
        ride.undo();
        ride.undo();
        ride.ticks(2);
        ride.give(99);
        ride.hold();
        ride.feed(1, 2, 3, 4, 5);
        int[] counts = {2, 3, 2, 3400, goes[0], goes[1], goes[2], 0, 99, 1, 10, 7, 33, 7, 20, 5};
        for (int what = 0; what < counts.length; what++) {
            Desk.due("count " + what, ride.count(what), counts[what]);
        }
        Desk.due("count -1", ride.count(-1), -1);
        Desk.due("count 16", ride.count(16), -1);
        Desk.due("count of the least", ride.count(Integer.MIN_VALUE), -1);
        Desk.due("count of the greatest", ride.count(Integer.MAX_VALUE), -1);
    }

    /** No call may throw, whatever it is given; what it answers is not looked at here. */
    private static void oddNumbers() {
        int[] odd = {Integer.MIN_VALUE, Integer.MIN_VALUE + 1, -100001, -65, -2, -1, 0, 1, 2, 3, 12, 63, 64, 65,
            400, 3001, 100001, 1 << 30, Integer.MAX_VALUE};
        String[] texts = {"", "to 500 0 0 50;to 500 300 0 900;turn 9 9 -4 7 80;", "to 1 0 0 1;", ";"};
        for (String text : texts) {
            for (int a : odd) {
                PathRide ride = new PathRide();
                Desk.tell(ride, text);
                for (int b : odd) {
                    askTwo(ride, a, b);
                }
                askOne(ride, a);
                Desk.due("it still tells a program", Desk.tell(ride, "to 5 5 5 5;"), 1);
            }
        }
    }

    private static void askTwo(PathRide ride, int a, int b) {
        ride.block(a, b);
        ride.corner(a, b);
        ride.place(a, b);
        ride.ahead(a, b);
        ride.tried(a, b);
        ride.least(a, b);
        ride.spot(a, b);
        ride.layer(a, b);
        ride.box(a, b);
        ride.comes(a, b, a);
        ride.near(a, b, 0, 1);
        ride.near(0, a, b, b);
        ride.feed(a, b, a, b, a);
        ride.end(b);
    }

    private static void askOne(PathRide ride, int a) {
        ride.ticks(a);
        ride.give(a);
        ride.where(a);
        ride.slowest(a);
        ride.brakes(a);
        ride.twice(a);
        ride.run(a);
        ride.halt(a);
        ride.due(a);
        ride.binds(a);
        ride.meets(a);
        ride.keep(a);
        ride.common(a);
        ride.image(a);
        ride.back(a);
        ride.count(a);
        ride.undo();
    }
}
