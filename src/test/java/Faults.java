/** Programs that are refused; a ^ stands in their text where the fault is. */
final class Faults {
    private Faults() {
    }

    /** The text is refused for this kind of fault at the ^, and but for the tape nothing happens. */
    static void fault(String marked, int kind) {
        int place = marked.indexOf('^');
        String text = marked.substring(0, place) + marked.substring(place + 1);
        PathRide ride = Twins.going();
        Desk.due("program of: " + marked, Desk.tell(ride, text), -2 - (8 * place + kind));
        PathRide twin = Twins.going();
        twin.end(0);
        Twins.alike("behind the fault of: " + marked, ride, twin);
    }

    static PathRide right(String text, int blocks) {
        PathRide ride = new PathRide();
        Desk.due("program of: " + text, Desk.tell(ride, text), blocks);
        return ride;
    }

    /**
     * A number between two texts: told as it is at both bounds and one step inside; one step outside it
     * is fault 2, at it. (Below 0 no number can be: then there is no step outside.)
     */
    static void bounds(String before, String behind, int least, int most) {
        for (int n : new int[] {least, least + 1, most - 1, most}) {
            if (n >= least && n <= most) {
                Desk.due(before + n + behind + " is right", Desk.tell(new PathRide(), before + n + behind) >= 0, true);
            }
        }
        if (least > 0) {
            fault(before + "^" + (least - 1) + behind, 2);
        }
        fault(before + "^" + (most + 1) + behind, 2);
        fault(before + "^9999999999999999999" + behind, 2);
        fault(before + "^4294967297" + behind, 2);
    }

    /** The same of a number that may have a minus ahead of it, by the same bounds. */
    static void boundsBothWays(String before, String behind, int least, int most) {
        bounds(before, behind, least, most);
        bounds(before + "-", behind, least, most);
        bounds(before + "- ", behind, least, most);
    }
}
