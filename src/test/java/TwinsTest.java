/** That two desks are told apart behind each call that changes one of them: else Twins would prove nothing. */
public final class TwinsTest {
    public static void main(String[] args) {
        Desk.due("a desk made twice", Twins.differ(Twins.going(), Twins.going()), false);
        changes("feed", r -> r.feed(0x39393939, 0, 0, 0, 0));
        changes("end", r -> r.end(10));
        changes("program", PathRide::program);
        changes("ticks", r -> r.ticks(1));
        changes("give", r -> r.give(71));
        changes("hold", r -> r.hold() ? 1 : 0);
        changes("undo", PathRide::undo);
        changes("keep 0 and another program", r -> r.keep(0) + Desk.tell(r, "to 1 1 1 1;"));
        changes("keep 1", r -> r.keep(1));
        for (int k = 0; k <= 2; k++) {
            int image = k;
            changes("image " + k, r -> r.image(image));
        }
        changes("back 0", r -> r.back(0));
        changes("back 2", r -> r.back(2));
        PathRide free = Twins.held();
        free.letGo();
        Desk.due("letGo", Twins.differ(free, Twins.held()), true);
        PathRide more = Twins.full();
        more.give(21);
        Desk.due("a give more where twenty acts were", Twins.differ(more, Twins.full()), true);
        Desk.finish("TwinsTest");
    }

    private static void changes(String call, Twins.Call asked) {
        PathRide one = Twins.going();
        asked.on(one);
        Desk.due("another one behind " + call, Twins.differ(one, Twins.going()), true);
    }
}
