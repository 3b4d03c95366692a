/** What every test needs: it counts the answers that are not the ones due, and feeds texts. */
final class Due {
    private static int wrong = 0;
    private static int seen = 0;

    private Due() {
    }

    static void is(String call, long got, long want) {
        seen++;
        if (got != want) {
            wrong++;
            if (wrong <= 40) {
                System.out.println(call + " answered " + got + ", due is " + want);
            }
        }
    }

    static void yes(String call, boolean got) {
        is(call, got ? 1 : 0, 1);
    }

    static void no(String call, boolean got) {
        is(call, got ? 1 : 0, 0);
    }

    /** The tape is that text and nothing else. */
    static void feed(ShipUnstopped ship, String text) {
        is("end(0)", ship.end(0), 0);
        for (int i = 0; i < text.length(); i += 20) {
            ship.feed(word(text, i), word(text, i + 4), word(text, i + 8), word(text, i + 12), word(text, i + 16));
        }
        is("end of " + text, ship.end(text.length()), text.length());
    }

    /** A text that has no fault, and rules from now on. */
    static void rule(ShipUnstopped ship, String text) {
        feed(ship, text);
        int number = ship.text();
        yes("text " + text, number >= 0);
        yes("by " + text, ship.by(number));
    }

    static void fault(String text, int fault, int at) {
        ShipUnstopped ship = new ShipUnstopped(6);
        feed(ship, text);
        is("text: " + text, ship.text(), fault == 0 ? 0 : -1);
        is("fault(0): " + text, ship.fault(0), fault);
        is("fault(1): " + text, ship.fault(1), fault == 0 ? -1 : at);
        is("the tape behind " + text, ship.about(9), 0);
        is("texts behind " + text, ship.about(3), fault == 0 ? 1 : 0);
    }

    static int state(int lane, int place, int hour, int last) {
        return ((12 * lane + place) * 8 + hour) * 5 + last;
    }

    static int ground(int lane, int place) {
        return 2000 + 12 * lane + place;
    }

    static int choice(int steer, int sail) {
        return 4 * (steer + 1) + sail;
    }

    static void close(String name) {
        System.out.println(name + ": " + (wrong == 0 ? seen + " answers are as due" : wrong + " of " + seen + " answers are not as due"));
        if (wrong != 0) {
            System.exit(1);
        }
    }

    private static int word(String text, int from) {
        int word = 0;
        for (int i = from; i < from + 4; i++) {
            word = word << 8 | (i < text.length() ? text.charAt(i) & 255 : 0);
        }
        return word;
    }
}
