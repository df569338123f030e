import java.util.ArrayList;
import java.util.List;

/**
 * Desks made alike. One is asked what must be refused; behind it both must show the same, in all
 * that can be asked, undone, called back, and read from the tape. (Some 350 calls: of 512 the rest is
 * left for how a desk is made.)
 */
final class Twins {
    interface Maker {
        PathRide make();
    }

    interface Call {
        long on(PathRide ride);
    }

    private static final int[] MOMENT = {4, 5, 6, 8, 9, 13, 15};
    private static final int SHOWN_BLOCKS = 4;
    private static final int SHOWN_SPOTS = 5;

    private final PathRide ride;
    private final List<String> names = new ArrayList<>();
    private final List<Long> answers = new ArrayList<>();

    private Twins(PathRide ride) {
        this.ride = ride;
    }

    /** A refused call: what it answers, and that nothing is another one behind it. */
    static void refused(String call, Maker maker, Call asked, long due) {
        PathRide one = maker.make();
        Desk.due(call, asked.on(one), due);
        alike("behind " + call, one, maker.make());
    }

    /** Whether two desks show the same (both are used up by it). */
    static void alike(String when, PathRide one, PathRide other) {
        Twins seen = look(one);
        Twins due = look(other);
        boolean same = true;
        for (int i = 0; i < due.answers.size() && same; i++) {
            same = i < seen.answers.size() && seen.answers.get(i).equals(due.answers.get(i));
            long answer = i < seen.answers.size() ? seen.answers.get(i) : Desk.MIN;
            Desk.due(when + ": " + due.names.get(i), answer, due.answers.get(i));
        }
    }

    static boolean differ(PathRide one, PathRide other) {
        return !look(one).answers.equals(look(other).answers);
    }

    private static Twins look(PathRide ride) {
        Twins twin = new Twins(ride);
        twin.lookAtProgram();
        twin.lookAhead();
        twin.lookAtShape();
        twin.lookBack();
        return twin;
    }

    private void see(String name, long answer) {
        names.add(name);
        answers.add(answer);
    }

    private void lookAtProgram() {
        for (int what = 0; what <= 15; what++) {
            see("count " + what, ride.count(what));
        }
        for (int block = 0; block < Math.min(SHOWN_BLOCKS, ride.count(0)); block++) {
            for (int what = 0; what <= 9; what++) {
                see("block " + block + " " + what, ride.block(block, what));
            }
            for (int what = 0; what <= 2; what++) {
                see("corner " + block + " " + what, ride.corner(block, what));
            }
            see("binds " + block, ride.binds(block));
        }
    }

    private void lookAhead() {
        int half = ride.count(3) / 2;
        for (int axis = 0; axis <= 2; axis++) {
            see("where " + axis, ride.where(axis));
            see("place " + half + " " + axis, ride.place(half, axis));
        }
        for (int what = 0; what <= 3; what++) {
            see("ahead 3 " + what, ride.ahead(3, what));
        }
        for (int what = 0; what <= 4; what++) {
            see("run " + what, ride.run(what));
        }
        see("till", ride.till());
        see("brakes 0", ride.brakes(0));
        see("brakes 1", ride.brakes(1));
        see("halt 2", ride.halt(2));
        see("due " + half, ride.due(half));
        see("tried 2 50", ride.tried(2, 50));
        see("slowest 3000", ride.slowest(3000));
        see("least 7 2", ride.least(7, 2));
    }

    private void lookAtShape() {
        see("spots", ride.spots());
        for (int k = 0; k < SHOWN_SPOTS; k++) {
            see("spot " + k + " 0", ride.spot(k, 0));
            see("spot " + k + " 3", ride.spot(k, 3));
            see("twice " + k, ride.twice(k));
        }
        see("comes", ride.comes(0, 0, 0));
        see("twice", ride.twice(-1));
        see("layers", ride.layer(-1, 0));
        for (int what = 0; what <= 2; what++) {
            see("layer 0 " + what, ride.layer(0, what));
            see("layer 1 " + what, ride.layer(1, what));
            see("meets " + what, ride.meets(what));
        }
        see("box", ride.box(0, 1));
        see("near", ride.near(1, 2, 3, 1));
        see("near 90 90 20 0", ride.near(90, 90, 20, 0));
        see("common 0", ride.common(0));
        see("common 1", ride.common(1));
    }

    /** What changes the desk comes last: what can be undone, the images, the tape. */
    private void lookBack() {
        int left = 0;
        for (int i = 0; i <= 20 && left >= 0; i++) {
            left = ride.undo();
            see("undo", left);
            lookAtMoment("undone " + (i + 1));
        }
        for (int k = 0; k <= 2; k++) {
            see("back " + k, ride.back(k));
            lookAtMoment("back " + k);
        }
        see("program of the tape", ride.program());
        see("its moves", ride.count(1));
        see("its marks", ride.count(2));
        for (int what = 0; what <= 4; what++) {
            see("its block 0 " + what, ride.block(0, what));
        }
    }

    private void lookAtMoment(String when) {
        for (int what : MOMENT) {
            see(when + ": count " + what, ride.count(what));
        }
    }

    // ---- desks in some states; each has another program on its tape ----

    static PathRide fresh() {
        return new PathRide();
    }

    /** On its way, with eleven acts, legs kept and two images. */
    static PathRide going() {
        PathRide ride = Desk.riding("mark a;to 300 0 0 900;to 300 400 0 500;by 0 0 90 700;");
        ride.keep(0);
        ride.ticks(5);
        ride.image(0);
        ride.give(70);
        ride.ticks(3);
        ride.image(2);
        ride.give(80);
        ride.ticks(1);
        Desk.type(ride, "to 5 6 7 8;");
        return ride;
    }

    static PathRide held() {
        PathRide ride = going();
        ride.hold();
        return ride;
    }

    /** At rest at the end. */
    static PathRide done() {
        PathRide ride = going();
        ride.ticks(60);
        ride.ticks(60);
        return ride;
    }

    /** Twenty acts and more were. */
    static PathRide full() {
        PathRide ride = going();
        for (int n = 1; n <= 20; n++) {
            ride.give(n);
        }
        return ride;
    }

    /** Asks the same of a desk in each of these states. */
    static void refusedEverywhere(String call, Call asked, long due) {
        refused(call + " of a new desk", Twins::fresh, asked, due);
        refused(call + " of one on its way", Twins::going, asked, due);
        refused(call + " of a held one", Twins::held, asked, due);
        refused(call + " of one that is done", Twins::done, asked, due);
        refused(call + " of one with twenty acts", Twins::full, asked, due);
    }
}
