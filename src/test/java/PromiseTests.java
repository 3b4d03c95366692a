/** Promises 1 to 5 and 11 to 29 by hand: ordinary inputs, the edges that the document names, wrong inputs. */
public final class PromiseTests {
    private static final int MIN = Integer.MIN_VALUE;
    private static final int MAX = Integer.MAX_VALUE;

    public static void main(String[] args) {
        newObject();
        depthRocksWindsWeigh();
        becomes();
        goLapsDays();
        aground();
        course();
        sail();
        undo();
        ship();
        reach();
        keptThinkBest();
        keptByWinds();
        between();
        betweenSure();
        meet();
        goodsLevel();
        leapAboard();
        imageBack();
        about();
        Due.close("PromiseTests");
    }

    private static void newObject() {
        int[][] asked = {{MIN, 4}, {-1, 4}, {0, 4}, {3, 4}, {4, 4}, {5, 5}, {11, 11}, {12, 12}, {13, 12}, {MAX, 12}};
        for (int[] pair : asked) {
            ShipUnstopped x = new ShipUnstopped(pair[0]);
            Due.is("about(0) of " + pair[0], x.about(0), pair[1]);
            for (int what = 1; what <= 9; what++) {
                Due.is("about(" + what + ")", x.about(what), what == 4 ? -1 : 0);
            }
            for (int hour = 0; hour < 8; hour++) {
                Due.is("winds", x.about(10 + hour), 2);
            }
            for (int i = 0; i < 36; i++) {
                Due.is("depth", x.about(20 + i), i % 12 < pair[1] ? 9 : -2);
            }
            Due.is("ship(0)", x.ship(0), 1);
            Due.is("ship(1)", x.ship(1), 1);
            Due.is("ship(2)", x.ship(2), 0);
            Due.is("ship(3)", x.ship(3), 0);
            Due.is("aboard", x.aboard(-1, false), 0);
            x.depth(0, 0, 1);
            x.go(4, 1);
            x.leap(1, true);
            Due.is("back() to the first image", x.back(), 0);
            Due.is("ship(0)", x.ship(0), 1);
            Due.is("depth", x.about(20), 9);
            Due.is("leaps", x.about(8), 0);
            Due.is("N", x.about(0), pair[1]);
        }
    }

    private static void depthRocksWindsWeigh() {
        ShipUnstopped x = new ShipUnstopped(7);
        Due.yes("depth(2, 6, 0)", x.depth(2, 6, 0));
        Due.yes("depth(0, 3, 9)", x.depth(0, 3, 9));
        Due.is("about", x.about(20 + 24 + 6), 0);
        int[][] wrong = {{-1, 0, 0}, {3, 0, 0}, {0, -1, 0}, {0, 7, 0}, {0, 12, 0}, {0, 0, -1}, {0, 0, 10}, {MIN, MIN, MIN}, {MAX, MAX, MAX}};
        for (int[] w : wrong) {
            Due.no("depth of others", x.depth(w[0], w[1], w[2]));
        }
        Due.is("about as it was", x.about(20), 9);
        Due.yes("rocks(127)", x.rocks(127));
        Due.no("rocks(128)", x.rocks(128));
        Due.no("rocks(-1)", x.rocks(-1));
        Due.no("rocks(MIN)", x.rocks(MIN));
        Due.is("about(1)", x.about(1), 127);
        Due.yes("rocks(0)", x.rocks(0));
        Due.is("about(1)", x.about(1), 0);
        Due.yes("winds(7, 15)", x.winds(7, 15));
        Due.yes("winds(0, 1)", x.winds(0, 1));
        Due.no("winds(0, 0)", x.winds(0, 0));
        Due.no("winds(0, 16)", x.winds(0, 16));
        Due.no("winds(-1, 1)", x.winds(-1, 1));
        Due.no("winds(8, 1)", x.winds(8, 1));
        Due.no("winds(0, MIN)", x.winds(0, MIN));
        Due.is("about(17)", x.about(17), 15);
        Due.is("about(10)", x.about(10), 1);
        Due.yes("weigh(99)", x.weigh(99));
        Due.no("weigh(100)", x.weigh(100));
        Due.no("weigh(-1)", x.weigh(-1));
        Due.is("about(2)", x.about(2), 99);
        Due.yes("weigh(0)", x.weigh(0));
        Due.is("about(2)", x.about(2), 0);
    }

    private static void becomes() {
        ShipUnstopped x = new ShipUnstopped(4);
        Due.rule(x, "speed sail+1; draught fast; tide hour=2;");
        Due.is("any wind", x.becomes(1, 4, 0), Due.state(0, 1, 1, 1));
        Due.is("the whole ring", x.becomes(Due.state(1, 2, 7, 3), Due.choice(1, 3), 3), Due.state(2, 2, 0, 4));
        Due.is("no lane below 0", x.becomes(1, 3, 0), -1);
        Due.is("no lane above 2", x.becomes(Due.state(2, 0, 0, 1), 8, 0), -1);
        int[] states = {-1, MIN, MAX, 0, 5, Due.state(0, 4, 0, 1), Due.state(2, 4, 0, 1), Due.state(3, 0, 0, 1), 1440};
        for (int s : states) {
            Due.is("becomes of no state " + s, x.becomes(s, 4, 0), -1);
            Due.is("reach of no state " + s, x.reach(s, 1, 0), -1);
            Due.no("kept of no state " + s, x.kept(s, 0));
            Due.is("best of no state " + s, x.best(s), -1);
            Due.is("between of no state " + s, x.between(s, 0, 1, true), -1);
            Due.is("between of no state " + s, x.between(s, 0, 1, false), -1);
            Due.is("meet of no state " + s, x.meet(s, 0, 0, 1), -1);
        }
        int[] none = {-1, 12, MIN, MAX};
        for (int c : none) {
            Due.is("no choice " + c, x.becomes(1, c, 1), -1);
            Due.is("no choice to go by " + c, x.go(c, 1), -1);
        }
        int[] winds = {-1, 4, 32, MIN, MAX};
        for (int w : winds) {
            Due.is("no wind " + w, x.becomes(1, 4, w), -1);
            Due.is("no wind to go by " + w, x.go(4, w), -1);
        }
        // aground at the first place on the way, by the draught of the whole speed
        x.depth(0, 1, 3);
        x.depth(0, 2, 1);
        Due.is("draught 1", x.becomes(1, 4, 0), Due.state(0, 1, 1, 1));
        Due.is("draught 2", x.becomes(1, 5, 0), Due.ground(0, 2));
        Due.is("draught 3", x.becomes(1, 6, 0), Due.ground(0, 2));
        Due.is("draught 4", x.becomes(1, 7, 0), Due.ground(0, 1));
        // where it sets out does not matter, unless it comes to it again
        x.depth(0, 1, 9);
        x.depth(0, 2, 9);
        x.depth(0, 0, 0);
        Due.is("from a shallow", x.becomes(1, 6, 0), Due.state(0, 3, 1, 3));
        Due.is("round to it", x.becomes(1, 7, 0), Due.ground(0, 0));
        x.rocks(8);
        Due.is("rocks at hour 0", x.becomes(1, 6, 0), Due.ground(0, 3));
        Due.is("rocks at hour 2", x.becomes(Due.state(0, 0, 2, 1), 6, 0), Due.state(0, 3, 3, 3));
        Due.is("rocks not come to", x.becomes(1, 5, 0), Due.state(0, 2, 1, 2));
        x.by(-1);
        Due.is("no tide: it is so", x.becomes(Due.state(0, 2, 0, 1), 4, 0), Due.state(0, 3, 1, 1));
        Due.is("no draught: 0", x.becomes(Due.state(0, 3, 0, 1), 7, 3), Due.state(0, 0, 1, 1));
    }

    private static void goLapsDays() {
        ShipUnstopped x = new ShipUnstopped(5);
        Due.rule(x, "speed sail+1;");
        x.winds(0, 9);
        Due.is("a wind not of the hour", x.go(7, 1), -1);
        Due.is("a wind of the hour", x.go(7, 3), Due.state(0, 4, 1, 4));
        Due.is("ship(0)", x.ship(0), Due.state(0, 4, 1, 4));
        Due.is("past 0", x.go(6, 1), Due.state(0, 2, 2, 3));
        Due.is("laps", x.ship(3), 1);
        Due.is("steers off", x.go(3, 1), -1);
        Due.is("nothing is done", x.about(6), 2);
        x.go(6, 1);
        Due.is("to 0", x.ship(0), Due.state(0, 0, 3, 3));
        Due.is("laps", x.ship(3), 2);
        for (int hour = 3; hour < 7; hour++) {
            Due.is("days", x.ship(2), 0);
            x.go(4, 1);
        }
        Due.is("laps", x.ship(3), 2);
        Due.is("the last hour of the day", x.go(4, 1), Due.state(0, 0, 0, 1));
        Due.is("days", x.ship(2), 1);
        Due.is("laps", x.ship(3), 3);
        ShipUnstopped y = new ShipUnstopped(4);
        Due.rule(y, "speed 4;");
        for (int i = 1; i <= 20; i++) {
            y.go(4, 1);
            Due.is("a lap an hour", y.ship(3), i);
            Due.is("days", y.ship(2), i / 8);
        }
    }

    private static void aground() {
        ShipUnstopped x = new ShipUnstopped(4);
        Due.rule(x, "speed 3; draught 1;");
        x.go(8, 1);
        x.depth(2, 0, 0);
        Due.is("laps", x.ship(3), 0);
        Due.is("aground at 0", x.go(8, 1), Due.ground(2, 0));
        Due.is("a lap as well", x.ship(3), 1);
        Due.is("afloat", x.ship(1), 0);
        Due.is("hour and last as they were", x.ship(0), Due.state(2, 0, 1, 3));
        Due.is("go", x.go(4, 1), -1);
        x.depth(2, 0, 9);
        Due.is("for ever", x.go(4, 1), -1);
        x.course(4);
        Due.is("sail", x.sail(0), 0);
        Due.is("leap", x.leap(0, true), -1);
        Due.is("an hour of it", x.about(6), 2);
        Due.is("undo", x.undo(), 1);
        Due.is("afloat", x.ship(1), 1);
        Due.is("ship(0)", x.ship(0), Due.state(1, 3, 1, 3));
        Due.is("laps", x.ship(3), 0);
        Due.is("go", x.go(8, 1), Due.state(2, 2, 2, 3));
        // aground on the way past 0, behind it
        ShipUnstopped y = new ShipUnstopped(4);
        Due.rule(y, "speed 4; tide hour#7;");
        y.rocks(2);
        for (int i = 0; i < 7; i++) {
            y.go(4, 1);
        }
        Due.is("laps", y.ship(3), 7);
        Due.is("aground ahead of 0", y.go(4, 1), Due.ground(0, 1));
        Due.is("no lap", y.ship(3), 7);
        Due.is("no day", y.ship(2), 0);
        Due.is("last", y.ship(0), Due.state(0, 1, 7, 4));
        // the speed of the hour that ends aground isn't LAST
        ShipUnstopped z = new ShipUnstopped(4);
        Due.rule(z, "speed 3; draught 1;");
        z.depth(0, 2, 0);
        Due.is("aground", z.go(4, 1), Due.ground(0, 2));
        Due.is("last", z.ship(0), Due.state(0, 2, 0, 1));
    }

    private static void course() {
        ShipUnstopped x = new ShipUnstopped(4);
        Due.is("course(NONE)", x.course(-1), 0);
        Due.is("course(12)", x.course(12), -1);
        Due.is("course(-2)", x.course(-2), -1);
        Due.is("course(MIN)", x.course(MIN), -1);
        for (int i = 1; i <= 24; i++) {
            Due.is("course", x.course(i % 12), i);
        }
        Due.is("course of 25", x.course(4), -1);
        Due.is("about(5)", x.about(5), 24);
        Due.is("course(NONE)", x.course(-1), 0);
        Due.is("about(5)", x.about(5), 0);
        Due.is("course(0)", x.course(0), 1);
    }

    private static void sail() {
        ShipUnstopped x = new ShipUnstopped(12);
        Due.rule(x, "speed wind+1;");
        Due.is("sail(-1)", x.sail(-1), -1);
        Due.is("sail(10000)", x.sail(10000), -1);
        Due.is("sail without", x.sail(9999), 0);
        int[] sets = {15, 7, 10, 1, 13, 8, 6, 12};
        for (int hour = 0; hour < 8; hour++) {
            x.winds(hour, sets[hour]);
        }
        for (int i = 0; i < 20; i++) {
            x.course(4);
        }
        for (int seed : new int[] {0, 1, 2, 3, 77, 4242, 9998, 9999}) {
            x.back();
            Due.rule(x, "speed wind+1;");
            for (int i = 0; i < 20; i++) {
                x.course(4);
            }
            for (int hour = 0; hour < 8; hour++) {
                x.winds(hour, sets[hour]);
            }
            int drawn = seed * 5 + 3;
            int place = 0;
            int last = 1;
            for (int i = 0; i < 20; i++) {
                int[] ofSet = new int[4];
                int m = 0;
                for (int w = 0; w < 4; w++) {
                    if ((sets[i % 8] & 1 << w) != 0) {
                        ofSet[m++] = w;
                    }
                }
                last = ofSet[drawn % m] + 1;
                place = (place + last) % 12;
                drawn = (drawn * 151 + 29) % 30097;
            }
            Due.is("sail", x.sail(seed), 20);
            Due.is("ship(0) by " + seed, x.ship(0), Due.state(0, place, 4, last));
            Due.is("the course stays", x.about(5), 20);
            Due.is("undoable", x.about(6), 20);
        }
        // the first draws by hand: 3 mod 4, then (3 * 151 + 29) mod 30097 = 482 mod 3
        x.back();
        Due.rule(x, "speed wind+1;");
        x.winds(0, 15);
        x.winds(1, 7);
        x.course(4);
        x.course(4);
        x.sail(0);
        Due.is("ship(0)", x.ship(0), Due.state(0, 7, 2, 3));
        // as long as the choice can be
        ShipUnstopped y = new ShipUnstopped(6);
        y.course(8);
        y.course(8);
        y.course(8);
        y.course(4);
        Due.is("to the edge", y.sail(5), 2);
        Due.is("ship(0)", y.ship(0), Due.state(2, 2, 2, 1));
        // as long as it is afloat
        Due.rule(y, "draught 1;");
        y.depth(2, 5, 0);
        y.course(-1);
        for (int i = 0; i < 6; i++) {
            y.course(4);
        }
        Due.is("to the ground", y.sail(5), 3);
        Due.is("afloat", y.ship(1), 0);
        Due.is("place", y.ship(0), Due.state(2, 5, 4, 1));
        Due.is("undoable", y.about(6), 5);
    }

    private static void undo() {
        ShipUnstopped x = new ShipUnstopped(4);
        Due.is("undo of none", x.undo(), -1);
        int[] states = new int[60];
        int[] days = new int[60];
        int[] laps = new int[60];
        for (int i = 0; i < 50; i++) {
            states[i] = x.ship(0);
            days[i] = x.ship(2);
            laps[i] = x.ship(3);
            x.go(4, 1);
            Due.is("about(6)", x.about(6), Math.min(30, i + 1));
        }
        for (int i = 49; i >= 20; i--) {
            Due.is("undo", x.undo(), i - 20);
            Due.is("state", x.ship(0), states[i]);
            Due.is("days", x.ship(2), days[i]);
            Due.is("laps", x.ship(3), laps[i]);
        }
        Due.is("undo of none", x.undo(), -1);
        x.go(4, 1);
        Due.is("undo", x.undo(), 0);
        Due.is("state", x.ship(0), states[20]);
    }

    private static void ship() {
        ShipUnstopped x = new ShipUnstopped(4);
        Due.is("ship(-1)", x.ship(-1), -1);
        Due.is("ship(4)", x.ship(4), -1);
        Due.is("ship(MIN)", x.ship(MIN), -1);
        Due.is("ship(MAX)", x.ship(MAX), -1);
    }

    private static void reach() {
        ShipUnstopped x = new ShipUnstopped(12);
        Due.rule(x, "speed sail+wind; draught 1;");
        x.winds(0, 5);
        int from = Due.state(1, 10, 0, 1);
        Due.is("0 hours", x.reach(from, 0, 1), 1 << 10);
        Due.is("0 hours, another lane", x.reach(from, 0, 0), 0);
        Due.is("1 hour", x.reach(from, 1, 2), 1 << 11 | 1 | 2 | 4);
        x.depth(2, 0, 0);
        Due.is("not past a shallow", x.reach(from, 1, 2), 1 << 11);
        Due.is("another lane", x.reach(from, 1, 1), 1 << 11 | 1 | 2 | 4);
        x.winds(0, 1);
        Due.is("by fewer winds", x.reach(from, 1, 1), 1 << 11 | 1 | 2);
        Due.is("24 hours", x.reach(from, 24, 0), 4095);
        Due.is("25 hours", x.reach(from, 25, 0), -1);
        Due.is("-1 hours", x.reach(from, -1, 0), -1);
        Due.is("lane 3", x.reach(from, 1, 3), -1);
        Due.is("lane -1", x.reach(from, 1, -1), -1);
        // where it is told to be is afloat, whatever the depth there
        x.depth(1, 10, 0);
        Due.is("from a shallow", x.reach(from, 0, 1), 1 << 10);
        Due.is("two lanes on takes two hours", x.reach(Due.state(0, 0, 1, 1), 1, 2), 0);
        Due.yes("two lanes on", x.reach(Due.state(0, 0, 1, 1), 2, 2) != 0);
        x.weigh(3);
        Due.rule(x, "speed weight+last-1;");
        Due.is("by weight", x.reach(1, 1, 0), 8);
        x.weigh(2);
        Due.is("by another weight", x.reach(1, 1, 0), 4);
        Due.is("by last", x.reach(1, 2, 0), 32);
        x.by(-1);
        Due.is("by none", x.reach(1, 2, 0), 4);
    }

    private static void keptThinkBest() {
        ShipUnstopped x = new ShipUnstopped(6);
        Due.rule(x, "speed 1; draught 5;");
        Due.is("think", x.think(), 0);
        for (int lane = 0; lane < 3; lane++) {
            x.depth(lane, 3, 0);
        }
        for (int place = 0; place < 6; place++) {
            int hours = (2 - place + 6) % 6;
            int s = Due.state(1, place, 5, 2);
            for (int n = 0; n <= 99; n += n < 8 ? 1 : 13) {
                Due.is("kept " + place + " " + n, x.kept(s, n) ? 1 : 0, n <= hours ? 1 : 0);
            }
            Due.no("for ever", x.kept(s, -1));
            Due.is("best", x.best(s), -1);
        }
        Due.is("think", x.think(), 6);
        x.depth(0, 3, 5);
        // from lane 2 it takes two hours to lane 0: place 2 in lanes 1 and 0, place 1 in all can be kept
        Due.yes("lane 0", x.kept(Due.state(0, 2, 0, 1), -1));
        Due.yes("lane 1", x.kept(Due.state(1, 2, 0, 1), -1));
        Due.no("lane 2", x.kept(Due.state(2, 2, 0, 1), -1));
        Due.no("lane 2", x.kept(Due.state(2, 2, 0, 1), 1));
        Due.yes("lane 2", x.kept(Due.state(2, 2, 0, 1), 0));
        Due.yes("lane 2, an hour earlier", x.kept(Due.state(2, 1, 0, 1), -1));
        Due.is("think", x.think(), 1);
        Due.is("best by lane 0", x.best(Due.state(0, 2, 0, 1)), 4);
        Due.is("best by lane 1", x.best(Due.state(1, 2, 0, 1)), 0);
        Due.is("best by lane 2", x.best(Due.state(2, 2, 0, 1)), -1);
        Due.is("best by lane 2, an hour earlier", x.best(Due.state(2, 1, 0, 1)), 0);
        Due.no("n 100", x.kept(1, 100));
        Due.no("n -2", x.kept(1, -2));
        Due.no("n MIN", x.kept(1, MIN));
        x.depth(0, 3, 0);
        Due.no("depth counts at once", x.kept(Due.state(0, 2, 0, 1), -1));
        x.back();
        Due.is("think", x.think(), 0);
        Due.yes("kept", x.kept(Due.state(0, 2, 0, 1), -1));
    }

    private static void keptByWinds() {
        ShipUnstopped x = new ShipUnstopped(4);
        Due.rule(x, "speed sail+wind; draught fast;");
        for (int lane = 0; lane < 3; lane++) {
            for (int place = 0; place < 4; place++) {
                x.depth(lane, place, 2);
            }
        }
        for (int hour = 0; hour < 8; hour++) {
            x.winds(hour, 6);
        }
        Due.yes("sail 0: speeds 1 and 2", x.kept(1, -1));
        Due.is("best", x.best(1), 4);
        x.winds(3, 12);
        // speeds 2 and 3 at the least in hour 3
        Due.no("not through hour 3", x.kept(1, -1));
        Due.yes("kept for 3", x.kept(1, 3));
        Due.no("kept for 4", x.kept(1, 4));
        Due.no("in hour 3", x.kept(Due.state(0, 0, 3, 1), 1));
        Due.is("think", x.think(), 8);
        x.winds(3, 4);
        Due.yes("by one wind", x.kept(1, -1));
        Due.is("best in hour 3", x.best(Due.state(2, 0, 3, 1)), 0);
        Due.is("think", x.think(), 0);
        Due.rule(x, "speed sail+wind-1; draught fast; tide hour#5 or place=2;");
        x.rocks(15);
        x.winds(5, 2);
        Due.yes("to place 2 in hour 5", x.kept(Due.state(0, 1, 5, 1), -1));
        Due.no("not to place 3", x.kept(Due.state(0, 2, 5, 1), -1));
        Due.no("not past 1", x.kept(Due.state(0, 0, 5, 1), -1));
    }

    private static void between() {
        ShipUnstopped x = new ShipUnstopped(12);
        Due.is("no place", x.between(1, 12, 1, true), -1);
        Due.is("no place", x.between(1, -1, 1, true), -1);
        Due.is("0 times", x.between(1, 0, 0, true), -1);
        Due.is("6 times", x.between(1, 0, 6, false), -1);
        for (int k = 1; k <= 5; k++) {
            Due.is("by 1 each hour", x.between(1, 0, k, true), 12 * k);
            Due.is("by 1 each hour", x.between(1, 0, k, false), 12 * k);
            Due.is("by 1 each hour", x.between(1, 5, k, true), 12 * k - 7);
        }
        Due.rule(x, "speed 4;");
        Due.is("past it counts", x.between(1, 5, 1, true), 2);
        Due.is("to it counts", x.between(1, 4, 1, true), 1);
        Due.is("where it stands doesn't", x.between(1, 0, 1, true), 3);
        Due.is("5 times", x.between(1, 0, 5, true), 15);
        Due.rule(x, "speed 1; draught 1;");
        for (int lane = 0; lane < 3; lane++) {
            x.depth(lane, 6, 0);
        }
        Due.is("not through ground", x.between(1, 7, 1, true), -1);
        Due.is("not by ending aground there", x.between(1, 6, 1, false), -1);
        Due.is("ahead of it", x.between(1, 5, 1, false), 5);
        Due.is("not twice", x.between(1, 5, 2, false), -1);
        ShipUnstopped y = new ShipUnstopped(4);
        Due.rule(y, "speed 4;");
        for (int k = 1; k <= 5; k++) {
            Due.is("round to where it stands", y.between(1, 0, k, true), k);
            Due.is("round past", y.between(1, 3, k, false), k);
        }
    }

    private static void betweenSure() {
        ShipUnstopped x = new ShipUnstopped(12);
        Due.rule(x, "speed wind+1;");
        for (int hour = 0; hour < 8; hour++) {
            x.winds(hour, 9);
        }
        Due.is("with luck", x.between(1, 8, 1, false), 2);
        Due.is("for sure", x.between(1, 8, 1, true), 8);
        Due.is("with luck, thrice", x.between(1, 8, 3, false), 8);
        Due.is("for sure, thrice", x.between(1, 8, 3, true), 32);
        // it chooses seeing where it is: behind hour 0 it is at 1 or 4, and no lane serves both
        Due.rule(x, "speed (1-(hour+7)/8)*wind+1; draught (hour+7)/8;");
        x.depth(1, 2, 0);
        x.depth(2, 2, 0);
        x.depth(0, 5, 0);
        Due.is("seeing where it is", x.between(1, 8, 1, true), 8);
        x.depth(1, 5, 0);
        Due.is("by lane 1, then 0 or 2", x.between(1, 8, 1, true), 8);
        x.depth(2, 5, 0);
        Due.is("no lane for 4", x.between(1, 8, 1, true), -1);
        // when it has come so often, ground behind it doesn't matter
        ShipUnstopped y = new ShipUnstopped(6);
        Due.rule(y, "speed wind; draught 1;");
        y.winds(0, 6);
        for (int lane = 0; lane < 3; lane++) {
            y.depth(lane, 3, 0);
        }
        Due.is("1 or 2, then 2", y.between(1, 2, 1, true), 2);
        Due.is("at once with luck", y.between(1, 2, 1, false), 1);
        Due.is("1 at once", y.between(1, 1, 1, true), 1);
        // one wind of the first hour ends aground
        y.winds(0, 10);
        Due.is("1 or aground", y.between(1, 1, 1, true), -1);
        Due.is("1 with luck", y.between(1, 1, 1, false), 1);
    }

    private static void meet() {
        ShipUnstopped x = new ShipUnstopped(12);
        Due.is("the 12th hour", x.meet(1, 0, 4, 1), 12);
        Due.is("to the 8th behind it", x.meet(1, 0, 3, 1), -1);
        Due.is("from it on", x.meet(1, 0, 12, 1), 12);
        Due.is("later", x.meet(1, 0, 13, 1), -1);
        Due.is("the next round", x.meet(1, 0, 16, 1), 24);
        Due.is("48", x.meet(1, 0, 48, 1), 48);
        Due.is("49", x.meet(1, 0, 49, 1), -1);
        Due.is("49, where it would be", x.meet(Due.state(0, 11, 0, 1), 0, 49, 1), -1);
        Due.is("-1", x.meet(1, 0, -1, 1), -1);
        Due.is("56", x.meet(Due.state(0, 4, 0, 1), 0, 48, 1), 56);
        Due.is("1 at least", x.meet(1, 1, 0, 1), 1);
        Due.is("not hour 0", x.meet(1, 0, 0, 1), -1);
        Due.is("speed 2", x.meet(1, 1, 0, 2), -1);
        Due.is("speed 0", x.meet(1, 1, 0, 0), -1);
        Due.is("speed 5", x.meet(1, 1, 0, 5), -1);
        Due.is("speed 33", x.meet(1, 1, 0, 33), -1);
        Due.is("speed MIN", x.meet(1, 1, 0, MIN), -1);
        Due.is("place 12", x.meet(1, 12, 0, 1), -1);
        Due.is("place -1", x.meet(1, -1, 0, 1), -1);
        Due.rule(x, "speed sail+1; draught 1;");
        Due.is("to 1 by 4", x.meet(1, 1, 0, 4), 4);
        Due.is("to 5 by 4", x.meet(1, 5, 0, 4), 2);
        x.depth(0, 4, 0);
        x.depth(1, 4, 0);
        Due.is("in another lane", x.meet(1, 5, 0, 4), 2);
        x.depth(2, 4, 0);
        Due.is("not past", x.meet(1, 5, 0, 4), -1);
        Due.is("not at", x.meet(1, 4, 0, 4), -1);
    }

    private static void goodsLevel() {
        ShipUnstopped x = new ShipUnstopped(4);
        Due.is("goods(NONE)", x.goods(-1), 0);
        Due.is("goods(0)", x.goods(0), -1);
        Due.is("goods(100)", x.goods(100), -1);
        Due.is("goods(-2)", x.goods(-2), -1);
        Due.is("level(0)", x.level(0), 0);
        Due.is("level(1)", x.level(1), 0);
        Due.is("level(2)", x.level(2), -1);
        Due.is("level(-1)", x.level(-1), -1);
        Due.is("goods(99)", x.goods(99), 1);
        Due.is("one alone", x.level(0), 0);
        Due.is("one alone", x.level(1), 99);
        Due.is("goods(1)", x.goods(1), 2);
        Due.is("two", x.level(0), 1);
        Due.is("two", x.level(1), 98);
        x.goods(98);
        Due.is("three", x.level(0), 1);
        Due.is("three", x.level(1), 0);
        x.goods(-1);
        for (int i = 1; i <= 12; i++) {
            Due.is("goods", x.goods(8 * i % 99 + 1), i);
        }
        Due.is("goods of 13", x.goods(1), -1);
        Due.is("about(7)", x.about(7), 12);
        int least = MAX;
        int set = 0;
        for (int s = 0; s < 4096; s++) {
            int difference = 0;
            for (int i = 1; i <= 12; i++) {
                difference += (s >> (i - 1) & 1) * 2 * (8 * i % 99 + 1) - (8 * i % 99 + 1);
            }
            if (Math.abs(difference) < least) {
                least = Math.abs(difference);
                set = s;
            }
        }
        Due.is("twelve", x.level(0), set);
        Due.is("twelve", x.level(1), least);
        Due.is("goods(NONE)", x.goods(-1), 0);
        Due.is("about(7)", x.about(7), 0);
        Due.is("the weight is another thing", x.about(2), 0);
    }

    private static void leapAboard() {
        ShipUnstopped x = new ShipUnstopped(4);
        Due.is("leap(-1)", x.leap(-1, true), -1);
        Due.is("leap(10)", x.leap(10, true), -1);
        Due.is("leap(32)", x.leap(32, true), -1);
        Due.is("leap of one not aboard", x.leap(0, false), -1);
        Due.is("leap(9)", x.leap(9, true), 1);
        Due.is("leap(9) again", x.leap(9, true), -1);
        Due.is("leap(0)", x.leap(0, true), 2);
        Due.is("aboard", x.aboard(-1, false), 513);
        Due.is("aboard", x.aboard(-1, true), 513);
        Due.is("of lap -2", x.aboard(-2, true), -1);
        Due.is("of lap 1", x.aboard(1, true), -1);
        x.go(4, 1);
        Due.is("undoable", x.about(6), 1);
        Due.is("a leap that can't be", x.leap(0, true), -1);
        Due.is("forgets nothing", x.about(6), 1);
        Due.is("leap(5)", x.leap(5, true), 3);
        Due.is("a leap forgets", x.about(6), 0);
        Due.is("undo", x.undo(), -1);
        x.go(4, 1);
        x.go(4, 1);
        x.go(4, 1);
        Due.is("lap 1", x.ship(3), 1);
        // out and in again, in and out again
        Due.is("leap", x.leap(9, false), 4);
        Due.is("leap", x.leap(9, true), 5);
        Due.is("leap", x.leap(3, true), 6);
        Due.is("leap", x.leap(3, false), 7);
        Due.is("leap", x.leap(5, false), 8);
        Due.is("lap 0 all", x.aboard(0, true), 0);
        Due.is("lap 0 some", x.aboard(0, false), 513 + 32);
        Due.is("lap 1 all", x.aboard(1, true), 1);
        Due.is("lap 1 some", x.aboard(1, false), 513 + 32 + 8);
        Due.is("now", x.aboard(-1, true), 513);
        for (int i = 0; i < 8; i++) {
            x.go(4, 1);
        }
        Due.is("lap 2 all", x.aboard(2, true), 513);
        Due.is("lap 2 some", x.aboard(2, false), 513);
        Due.is("lap 3", x.aboard(3, false), 513);
        Due.is("lap 4", x.aboard(4, false), -1);
        for (int i = 9; i <= 60; i++) {
            Due.is("leap", x.leap(1, i % 2 == 1), i);
        }
        x.go(4, 1);
        Due.is("leap of 61", x.leap(1, true), -1);
        Due.is("forgets nothing", x.about(6), 1);
        Due.is("about(8)", x.about(8), 60);
    }

    private static void imageBack() {
        ShipUnstopped x = new ShipUnstopped(4);
        Due.rule(x, "speed 3;");
        x.depth(1, 2, 3);
        x.rocks(5);
        x.winds(6, 9);
        x.weigh(44);
        x.course(4);
        x.course(8);
        x.goods(7);
        x.leap(4, true);
        x.go(4, 1);
        x.go(4, 1);
        Due.is("image()", x.image(), 1);
        int[] about = new int[60];
        for (int what = 0; what < 60; what++) {
            about[what] = x.about(what);
        }
        for (int round = 0; round < 2; round++) {
            Due.rule(x, "speed 2;");
            Due.is("texts", x.about(3), 2);
            for (int i = 0; i < 4; i++) {
                x.depth(i % 3, i, 1);
            }
            x.rocks(15);
            x.winds(6, 1);
            x.winds(2, 3);
            x.weigh(1);
            x.course(-1);
            x.course(5);
            x.goods(-1);
            x.undo();
            x.go(8, 1);
            x.go(4, 1);
            x.go(4, 2);
            x.leap(5, true);
            x.leap(4, false);
            Due.feed(x, "speed 99999;");
            x.text();
            x.feed(0, 0, 0, 0, 0);
            Due.is("back()", x.back(), 1);
            for (int what = 0; what < 60; what++) {
                Due.is("about(" + what + ")", x.about(what), what == 9 ? 20 : about[what]);
            }
            Due.is("the fault stays", x.fault(0), 2);
            Due.is("the fault stays", x.fault(1), 6);
            Due.is("ship(0)", x.ship(0), Due.state(0, 2, 2, 3));
            Due.is("ship(1)", x.ship(1), 1);
            Due.is("ship(3)", x.ship(3), 1);
            Due.is("aboard", x.aboard(-1, true), 16);
            Due.is("aboard", x.aboard(0, false), 16);
            Due.is("level", x.level(1), 7);
            Due.is("the text rules again", x.becomes(1, 4, 1), Due.state(0, 3, 1, 3));
            Due.is("reach by it", x.reach(1, 1, 0), 8);
        }
        Due.is("what can be taken back", x.undo(), 1);
        Due.is("ship(0)", x.ship(0), Due.state(0, 3, 1, 3));
        Due.is("what can be taken back", x.undo(), 0);
        Due.is("ship(0)", x.ship(0), 1);
        x.back();
        Due.is("the course", x.sail(0), 2);
        Due.is("the course", x.ship(0), Due.state(1, 0, 4, 3));
        // aground, and back
        x.back();
        Due.rule(x, "draught 9;");
        x.depth(0, 3, 0);
        Due.is("aground", x.go(4, 1), Due.ground(0, 3));
        Due.is("image() of it", x.image(), 1);
        Due.is("undo", x.undo(), 2);
        Due.is("back()", x.back(), 1);
        Due.is("aground again", x.ship(1), 0);
        Due.is("undoable", x.about(6), 3);
        Due.is("by", x.about(4), 1);
    }

    private static void about() {
        ShipUnstopped x = new ShipUnstopped(11);
        int[] others = {-1, MIN, MAX, 18, 19, 31, 43, 55, 56, 100};
        for (int what : others) {
            Due.is("about(" + what + ")", x.about(what), -2);
        }
        x.depth(2, 10, 4);
        Due.is("about(54)", x.about(54), 4);
        x.depth(0, 10, 6);
        Due.is("about(30)", x.about(30), 6);
    }
}
