/**
 * Two objects that were used alike must look alike. A refused call may change nothing, so one that was refused something is held
 * against one that wasn't; the look goes as far as an object can be looked at within its 512 calls.
 */
final class Twins {
    /** Some calls on an object. */
    interface Use {
        void on(ShipUnstopped x);
    }

    private Twins() {
    }

    /** The calls, on an object in which something of everything is there, leave all as it was. */
    static void unchanged(String what, Use calls) {
        alike(what, 7, Twins::fill, x -> {
            fill(x);
            calls.on(x);
        });
    }

    static void alike(String what, int places, Use one, Use other) {
        ShipUnstopped x = new ShipUnstopped(places);
        ShipUnstopped y = new ShipUnstopped(places);
        one.on(x);
        other.on(y);
        String due = whole(x);
        String got = whole(y);
        Due.yes(what + ": as it was\n  due " + due + "\n  got " + got, due.equals(got));
    }

    /** Something of everything: 40 calls or so. */
    static void fill(ShipUnstopped x) {
        Due.rule(x, "speed sail+wind;draught weight/20+fast-1;tide hour<6 or place=2;");
        x.depth(0, 3, 8);
        x.depth(1, 0, 7);
        x.depth(2, 6, 6);
        x.rocks(72);
        x.winds(0, 6);
        x.winds(5, 9);
        x.weigh(41);
        x.course(4);
        x.course(9);
        x.course(5);
        x.goods(30);
        x.goods(21);
        x.goods(12);
        x.leap(3, true);
        x.go(5, 1);
        x.go(5, 1);
        x.image();
        x.go(8, 1);
        x.go(6, 1);
        x.leap(8, true);
        x.go(4, 1);
        x.go(4, 0);
        x.weigh(40);
        x.goods(5);
        Due.feed(x, "speed 12345;");
        x.text();
        Due.feed(x, "draught hour;");
    }

    private static String whole(ShipUnstopped x) {
        StringBuilder seen = new StringBuilder(standing(x));
        seen.append(" reach ").append(x.reach(x.ship(0), 3, 1)).append(" think ").append(x.think());
        seen.append(" sail ").append(x.sail(17)).append(ship(x));
        for (int left = x.undo(); left >= 0; left = x.undo()) {
            seen.append(" undo ").append(left).append(ship(x));
        }
        seen.append(" text ").append(x.text()).append(' ').append(x.fault(0)).append(' ').append(x.fault(1));
        for (int text = -1; text < x.about(3); text++) {
            x.by(text);
            seen.append(" by ").append(text).append(' ').append(x.becomes(1, 5, 1)).append(' ').append(x.becomes(16, 8, 2));
        }
        return seen.append(" back ").append(x.back()).append(standing(x)).toString();
    }

    private static String standing(ShipUnstopped x) {
        StringBuilder seen = new StringBuilder();
        for (int what = 0; what < 56; what++) {
            seen.append(x.about(what)).append(' ');
        }
        seen.append(ship(x)).append(" fault ").append(x.fault(0)).append(' ').append(x.fault(1));
        for (int lap = -1; lap <= Math.min(6, x.ship(3)); lap++) {
            seen.append(" aboard ").append(x.aboard(lap, true)).append(' ').append(x.aboard(lap, false));
        }
        return seen.append(" level ").append(x.level(0)).append(' ').append(x.level(1)).toString();
    }

    private static String ship(ShipUnstopped x) {
        return " ship " + x.ship(0) + ' ' + x.ship(1) + ' ' + x.ship(2) + ' ' + x.ship(3);
    }
}
