/** Long runs of drawn calls, each answered by the class and by Model; and texts by the thousand against Law. */
public final class ModelTests {
    private static final String[] WORDS = {"speed", "draught", "tide", "or", "and", "not", "hour", "weight", "sail", "wind",
        "last", "place", "lane", "fast", "<", "<=", ">", ">=", "=", "#", "+", "-", "*", "/", "(", ")", ";", "1", "2", "3", "17",
        "9999", "10000", "!", " ", "\n", "x", "((", "not not not", "--", "))"};

    private static final String[] NAMES = {"hour", "weight", "hour", "weight", "hour", "place", "fast", "sail", "wind", "last", "lane"};

    private final Draw draw;
    private final ShipUnstopped ship;
    private final Model model;
    private final int places;
    // every other run has little ground, so that a ship comes far
    private final boolean mild;

    private ModelTests(int seed) {
        draw = new Draw(seed);
        mild = seed % 2 == 1;
        places = 4 + draw.below(9);
        ship = new ShipUnstopped(places);
        model = new Model(places);
    }

    public static void main(String[] args) {
        for (int seed = 0; seed < 6000; seed++) {
            texts(new Draw(seed));
        }
        for (int seed = 0; seed < 160; seed++) {
            new ModelTests(seed).run();
        }
        Due.close("ModelTests");
    }

    private static void texts(Draw draw) {
        String text = switch (draw.below(6)) {
            case 0 -> soup(draw);
            case 1 -> deep(draw);
            case 2 -> law(draw) + law(draw);
            case 3 -> "tide 1<2 and " + sum(draw, 3, NAMES) + ">0;speed " + sum(draw, 2, NAMES) + ";draught " + sum(draw, 2, NAMES) + ";";
            default -> spoilt(draw, law(draw));
        };
        if (text.length() > 300) {
            text = text.substring(0, 300);
        }
        Law law = new Law(text);
        Due.fault(text, law.fault, law.faultAt);
    }

    private static String soup(Draw draw) {
        StringBuilder text = new StringBuilder();
        for (int i = draw.below(12); i >= 0; i--) {
            text.append(WORDS[draw.below(WORDS.length)]).append(draw.below(2) == 0 ? " " : "");
        }
        return text.toString();
    }

    /** About as many brackets, minuses and nots around one another as may be. */
    private static String deep(Draw draw) {
        String nots = "not ".repeat(draw.below(2) * draw.below(6));
        String text = (nots.isEmpty() ? "speed " : "tide 3>2 or " + nots) + nest(draw, 9 - nots.length() / 4);
        return text + (nots.isEmpty() ? "" : "<" + nest(draw, 9 - nots.length() / 4)) + ";";
    }

    private static String nest(Draw draw, int about) {
        String inner = "1";
        for (int i = about - 3 + draw.below(4); i > 0; i--) {
            inner = draw.below(2) == 0 ? "-" + inner : "(" + (draw.below(3) == 0 ? "-2*" : "") + inner + (draw.below(3) == 0 ? "-(3)" : "") + ")";
        }
        return inner;
    }

    private static String spoilt(Draw draw, String text) {
        StringBuilder to = new StringBuilder(text);
        for (int i = draw.below(3); i > 0 && to.length() > 0; i--) {
            int at = draw.below(to.length());
            if (draw.below(2) == 0) {
                to.deleteCharAt(at);
            } else {
                to.insert(at, WORDS[draw.below(WORDS.length)]);
            }
        }
        return to.toString();
    }

    /** A text without a fault, as a rule (it may be too long, or too deep). */
    private static String law(Draw draw) {
        String[] clauses = {"", "", ""};
        if (draw.below(8) > 0) {
            clauses[0] = "speed " + speed(draw) + ";";
        }
        if (draw.below(4) > 0) {
            clauses[1] = "draught " + draught(draw) + ";";
        }
        if (draw.below(4) > 0) {
            clauses[2] = "tide " + tide(draw) + ";";
        }
        int first = draw.below(3);
        return clauses[first] + (draw.below(2) == 0 ? " " : "\n") + clauses[(first + 1) % 3] + clauses[(first + 2) % 3];
    }

    private static String speed(Draw draw) {
        return switch (draw.below(7)) {
            case 0 -> "sail+wind/2";
            case 1 -> "sail*wind-last+1";
            case 2 -> "(last+wind+sail-1)/2";
            case 3 -> "1+(sail+wind+place+hour)/4";
            case 4 -> "lane+sail-weight/40";
            case 5 -> "wind+" + draw.below(2);
            default -> sum(draw, 3, "hour weight sail wind last place lane".split(" "));
        };
    }

    private static String draught(Draw draw) {
        return switch (draw.below(4)) {
            case 0 -> "fast+" + draw.below(4);
            case 1 -> "weight/20+fast-1";
            case 2 -> "hour+" + draw.below(4);
            default -> sum(draw, 2, "hour weight fast".split(" "));
        };
    }

    private static String tide(Draw draw) {
        StringBuilder text = new StringBuilder();
        String[] names = "hour weight place".split(" ");
        for (int i = draw.below(3); i >= 0; i--) {
            for (int j = draw.below(4) / 2; j > 0; j--) {
                text.append("not ");
            }
            String sign = new String[] {"<", "<=", ">", ">=", "=", "#"}[draw.below(6)];
            text.append(sum(draw, 1, names)).append(sign).append(sum(draw, 1, names));
            text.append(i == 0 ? "" : draw.below(2) == 0 ? " and " : " or ");
        }
        return text.toString();
    }

    private static String sum(Draw draw, int deep, String[] names) {
        int kind = draw.below(deep <= 0 ? 2 : 7);
        return switch (kind) {
            case 0 -> "" + draw.below(draw.below(5) == 0 ? 9999 : 8);
            case 1 -> names[draw.below(names.length)];
            case 2 -> "(" + sum(draw, deep - 1, names) + ")";
            case 3 -> "-" + sum(draw, deep - 1, names);
            default -> sum(draw, deep - 1, names) + "+-*/".charAt(draw.below(4)) + sum(draw, deep - 1, names);
        };
    }

    private void run() {
        int calls = 0;
        for (; calls < 40; calls++) {
            setUp();
        }
        for (; calls < 400; calls++) {
            int kind = draw.below(20);
            if (kind < (mild ? 1 : 4)) {
                setUp();
            } else if (kind < (mild ? 17 : 12)) {
                move();
            } else if (kind < 19) {
                ask();
            } else {
                whole();
            }
        }
    }

    private void is(String call, long got, long want) {
        Due.is(call + " (places " + places + ")", got, want);
    }

    private void is(String call, boolean got, boolean want) {
        is(call, got ? 1 : 0, want ? 1 : 0);
    }

    /** Mostly within its bounds, at times just outside. */
    private int about(int low, int high) {
        return draw.below(25) == 0 ? (draw.below(2) == 0 ? low - 1 - draw.below(2) : high + 1 + draw.below(2)) : low + draw.below(high - low + 1);
    }

    private int anyState() {
        if (draw.below(4) == 0) {
            return model.ship(0);
        }
        return draw.below(12) == 0 ? draw.below(1500) - 20
            : Due.state(draw.below(3), draw.below(places), draw.below(8), 1 + draw.below(4));
    }

    private void setUp() {
        switch (draw.below(9)) {
            case 0, 1, 2 -> {
                int lane = about(0, 2);
                int place = about(0, places - 1);
                int d = mild ? about(7, 9) : draw.below(3) == 0 ? about(0, 9) : 3 + draw.below(7);
                is("depth", ship.depth(lane, place, d), model.depth(lane, place, d));
            }
            case 3 -> {
                int set = mild ? 0 : draw.below(10) == 0 ? about(0, (1 << places) - 1) : 1 << draw.below(places);
                is("rocks", ship.rocks(set), model.rocks(set));
            }
            case 4, 5 -> {
                int hour = about(0, 7);
                int set = about(1, 15);
                is("winds", ship.winds(hour, set), model.winds(hour, set));
            }
            case 6 -> {
                int w = about(0, 99);
                is("weigh", ship.weigh(w), model.weigh(w));
            }
            case 7 -> tell(draw.below(4) == 0 ? spoilt(draw, law(draw)) : law(draw));
            default -> {
                int text = about(-1, 3);
                is("by", ship.by(text), model.by(text));
            }
        }
    }

    private void tell(String text) {
        is("end(0)", ship.end(0), model.end(0));
        for (int i = 0; i < text.length(); i += 20) {
            int[] words = new int[5];
            for (int j = 0; j < 20; j++) {
                words[j / 4] = words[j / 4] << 8 | (i + j < text.length() ? text.charAt(i + j) : 0);
            }
            is("feed", ship.feed(words[0], words[1], words[2], words[3], words[4]), model.feed(words));
        }
        int n = draw.below(6) == 0 ? draw.below(text.length() + 20) : text.length();
        is("end " + n, ship.end(n), model.end(n));
        is("text " + text, ship.text(), model.text());
        is("fault(0) " + text, ship.fault(0), model.fault(0));
        is("fault(1) " + text, ship.fault(1), model.fault(1));
        int by = model.about(3) - 1;
        is("by", ship.by(by), model.by(by));
    }

    private void move() {
        switch (draw.below(10)) {
            case 0, 1, 2, 3 -> {
                int choice = draw.below(2) == 0 ? 4 + draw.below(4) : about(0, 11);
                int wind = about(0, 3);
                is("go", ship.go(choice, wind), model.go(choice, wind));
            }
            case 4 -> {
                int choice = draw.below(12) == 0 ? -1 : about(0, 11);
                is("course", ship.course(choice), model.course(choice));
            }
            case 5 -> {
                int seed = about(0, 9999);
                is("sail", ship.sail(seed), model.sail(seed));
            }
            case 6 -> {
                for (int i = draw.below(4); i >= 0; i--) {
                    is("undo", ship.undo(), model.undo());
                }
            }
            case 7 -> {
                int who = about(0, 9);
                boolean on = (model.aboard(-1, true) >> Math.max(0, who) & 1) == 0 ^ draw.below(8) == 0;
                is("leap", ship.leap(who, on), model.leap(who, on));
            }
            case 8 -> {
                int weight = draw.below(15) == 0 ? -1 : about(1, 99);
                is("goods", ship.goods(weight), model.goods(weight));
            }
            default -> {
                int kind = draw.below(6);
                if (kind == 0) {
                    is("image", ship.image(), model.image());
                } else if (kind == 1) {
                    is("back", ship.back(), model.back());
                } else {
                    is("undo", ship.undo(), model.undo());
                }
            }
        }
    }

    private void ask() {
        int state = anyState();
        switch (draw.below(10)) {
            case 0, 1 -> {
                int choice = about(0, 11);
                int wind = about(0, 3);
                is("becomes " + state + " " + choice + " " + wind, ship.becomes(state, choice, wind), model.becomes(state, choice, wind));
            }
            case 2 -> {
                int n = draw.below(3) == 0 ? about(0, 24) : draw.below(5);
                int lane = about(0, 2);
                is("reach " + state + " " + n + " " + lane, ship.reach(state, n, lane), model.reach(state, n, lane));
            }
            case 3, 4 -> {
                int n = draw.below(3) == 0 ? about(-1, 99) : draw.below(12) - 1;
                is("kept " + state + " " + n, ship.kept(state, n), model.kept(state, n));
            }
            case 5 -> is("think", ship.think(), model.think());
            case 6 -> is("best " + state, ship.best(state), model.best(state));
            case 7 -> {
                int place = about(0, places - 1);
                int times = about(1, 5);
                is("sure " + state + " " + place + " " + times, ship.between(state, place, times, true), model.between(state, place, times, true));
                is("luck " + state + " " + place + " " + times, ship.between(state, place, times, false), model.between(state, place, times, false));
            }
            case 8 -> {
                int place = about(0, places - 1);
                int hour = about(0, 48);
                int speed = about(1, 4);
                is("meet " + state + " " + place + " " + hour + " " + speed, ship.meet(state, place, hour, speed), model.meet(state, place, hour, speed));
            }
            default -> {
                int what = about(0, 1);
                is("level", ship.level(what), model.level(what));
                int lap = about(-1, Math.max(0, model.ship(3)));
                boolean whole = draw.below(2) == 0;
                is("aboard", ship.aboard(lap, whole), model.aboard(lap, whole));
            }
        }
    }

    private void whole() {
        for (int what = -1; what <= 60; what++) {
            is("about " + what, ship.about(what), model.about(what));
        }
        for (int what = -1; what <= 4; what++) {
            is("ship " + what, ship.ship(what), model.ship(what));
            is("fault " + what, ship.fault(what), model.fault(what));
        }
        for (int lap = -2; lap <= model.ship(3) + 1; lap++) {
            is("aboard", ship.aboard(lap, true), model.aboard(lap, true));
            is("aboard", ship.aboard(lap, false), model.aboard(lap, false));
        }
    }

    /** Numbers that look drawn and are the same each time. */
    private static final class Draw {
        private long x;

        Draw(int seed) {
            x = seed * 0x9E3779B97F4A7C15L + 12345;
        }

        int below(int m) {
            x = x * 6364136223846793005L + 1442695040888963407L;
            return (int) ((x >>> 33) % m);
        }
    }
}
