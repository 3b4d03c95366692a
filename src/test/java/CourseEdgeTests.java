/**
 * Part III of the document and promises 13 to 15: each sentence that names a boundary case has a test of its own here, under that
 * sentence's words.
 */
public final class CourseEdgeTests {
    private static final int MIN = Integer.MIN_VALUE;
    private static final int MAX = Integer.MAX_VALUE;

    public static void main(String[] args) {
        courseNoneIsEmpty();
        courseOfTwentyFour();
        courseNoneForOthers();
        sailAnEmptyCourse();
        sailSeedsWithinTheirBounds();
        sailNoneForOthers();
        sailAsLongAsItIsAfloat();
        sailAsLongAsTheChoiceCanBe();
        sailAnHourThatEndsAground();
        sailFromTheFirstChoiceAgain();
        drawOfOne();
        drawsByHand();
        drawFromTheLowestOn();
        drawsOfTheHourItIsIn();
        undoWithoutAny();
        undoTheLatestFirst();
        undoTheLatestThirty();
        undoHoursOfACourse();
        undoAnHourThatEndedAground();
        undoIsAsAheadOfIt();
        undoTheShipAlone();
        whatWasRefusedIsNoHour();
        aLeapForgets();
        Due.close("CourseEdgeTests");
    }

    private static ShipUnstopped withCourse(int places, int... choices) {
        ShipUnstopped x = new ShipUnstopped(places);
        for (int choice : choices) {
            x.course(choice);
        }
        return x;
    }

    /** course: "(NONE: it is empty): how many it has". */
    private static void courseNoneIsEmpty() {
        ShipUnstopped x = new ShipUnstopped(6);
        Due.is("an empty one", x.course(-1), 0);
        Due.is("one", x.course(4), 1);
        Due.is("two", x.course(8), 2);
        Due.is("emptied", x.course(-1), 0);
        Due.is("about(5)", x.about(5), 0);
        Due.is("sail", x.sail(1), 0);
        Due.is("one again", x.course(8), 1);
        Due.is("sail", x.sail(1), 1);
        Due.is("by the new one", x.ship(0), Due.state(1, 1, 1, 1));
    }

    /** "a row of CHOICES (24 at most)"; course: "NONE .. if it has 24." */
    private static void courseOfTwentyFour() {
        ShipUnstopped x = new ShipUnstopped(12);
        for (int i = 1; i <= 24; i++) {
            Due.is("course", x.course(i == 24 ? 8 : 4), i);
        }
        for (int choice = 0; choice < 12; choice++) {
            Due.is("full", x.course(choice), -1);
            Due.is("about(5)", x.about(5), 24);
        }
        Due.is("sail", x.sail(0), 24);
        Due.is("the 24th is gone too, and no more", x.ship(0), Due.state(1, 0, 0, 1));
        Due.is("emptied", x.course(-1), 0);
        Due.is("room again", x.course(0), 1);
    }

    /** course: "NONE for others". */
    private static void courseNoneForOthers() {
        for (int choice : new int[] {-2, -3, 12, 13, MIN, MAX}) {
            Twins.unchanged("course", x -> Due.is("course(" + choice + ")", x.course(choice), -1));
        }
        ShipUnstopped x = new ShipUnstopped(12);
        for (int choice = 0; choice < 12; choice++) {
            Due.is("each choice, whether it can be or not", x.course(choice), choice + 1);
        }
    }

    private static void sailAnEmptyCourse() {
        ShipUnstopped x = new ShipUnstopped(12);
        Due.is("sail", x.sail(0), 0);
        Due.is("sail", x.sail(9999), 0);
        Due.is("about(6)", x.about(6), 0);
        Due.is("ship(0)", x.ship(0), 1);
    }

    /** "SEED (0 .. 9999)". */
    private static void sailSeedsWithinTheirBounds() {
        for (int seed : new int[] {0, 1, 9998, 9999}) {
            Due.is("sail(" + seed + ")", withCourse(12, 4, 4).sail(seed), 2);
        }
    }

    /** sail: "NONE for others." */
    private static void sailNoneForOthers() {
        for (int seed : new int[] {-1, -2, 10000, 10001, MIN, MAX}) {
            Twins.unchanged("sail", x -> Due.is("sail(" + seed + ")", x.sail(seed), -1));
            Due.is("an empty course", new ShipUnstopped(6).sail(seed), -1);
        }
    }

    /** "as long as it is AFLOAT". */
    private static void sailAsLongAsItIsAfloat() {
        ShipUnstopped x = withCourse(6, 4, 4, 4, 4);
        Due.rule(x, "draught 1;");
        x.depth(0, 3, 0);
        Due.is("three hours, the last aground", x.sail(0), 3);
        Due.is("aground", x.ship(1), 0);
        Due.is("there", x.ship(0), Due.state(0, 3, 2, 1));
        Due.is("aground: no hour", x.sail(0), 0);
        Due.is("hours", x.about(6), 3);
    }

    /** ".. and the CHOICE can be": what is behind one that can't isn't gone. */
    private static void sailAsLongAsTheChoiceCanBe() {
        ShipUnstopped x = withCourse(6, 4, 0, 4, 4);
        Due.is("no lane", x.sail(0), 1);
        Due.is("afloat", x.ship(1), 1);
        Due.is("there", x.ship(0), Due.state(0, 1, 1, 1));
        Due.is("once more", x.sail(0), 1);
        Due.is("there", x.ship(0), Due.state(0, 2, 2, 1));
        Due.is("at the first choice", withCourse(6, 3).sail(0), 0);
        Due.is("to the edge and back", withCourse(6, 8, 8, 0, 0, 0).sail(0), 4);
    }

    /** sail: "how many HOURS (one that ends AGROUND, too)". */
    private static void sailAnHourThatEndsAground() {
        ShipUnstopped x = withCourse(6, 4);
        Due.rule(x, "draught 1;");
        x.depth(0, 1, 0);
        Due.is("one hour", x.sail(5), 1);
        Due.is("aground", x.ship(1), 0);
        Due.is("undoable", x.about(6), 1);
    }

    /** "THE COURSE is gone through": it stays, and each time from its first CHOICE. */
    private static void sailFromTheFirstChoiceAgain() {
        ShipUnstopped x = withCourse(12, 8, 4, 0);
        for (int i = 1; i <= 5; i++) {
            Due.is("sail", x.sail(3), 3);
            Due.is("ship(0)", x.ship(0), Due.state(0, 3 * i % 12, 3 * i % 8, 1));
            Due.is("the course stays", x.about(5), 3);
        }
    }

    /** A draw of 1 is 0: the one WIND there is. */
    private static void drawOfOne() {
        for (int wind = 0; wind < 4; wind++) {
            for (int seed : new int[] {0, 7, 9999}) {
                ShipUnstopped x = withCourse(12, 4);
                Due.rule(x, "speed wind+1;");
                x.winds(0, 1 << wind);
                x.sail(seed);
                Due.is("the only wind", x.ship(0), Due.state(0, wind + 1, 1, wind + 1));
            }
        }
    }

    /** "X is SEED .. * 5 + 3; of m: X mod m, X being (X * 151 + 29) mod 30097 then". */
    private static void drawsByHand() {
        // X is 3, 482, 12617, 9085, 17499, 23939: of four, of three, of two
        drawn(0, 15, 3, 2, 1, 1, 3, 3);
        drawn(0, 7, 0, 2, 2, 1, 0, 2);
        drawn(0, 3, 1, 0, 1, 1, 1, 1);
        // X is 49998, 25477, 24737, 3288, 14965, 2469
        drawn(9999, 15, 2, 1, 1, 0, 1, 1);
        drawn(9999, 7, 0, 1, 2, 0, 1, 0);
        drawn(9999, 3, 0, 1, 1, 0, 1, 1);
    }

    private static void drawn(int seed, int set, int... winds) {
        for (int hours = 1; hours <= winds.length; hours++) {
            ShipUnstopped x = new ShipUnstopped(12);
            Due.rule(x, "speed wind+1;");
            int place = 0;
            for (int i = 0; i < hours; i++) {
                x.course(4);
                x.winds(i, set);
                place += winds[i] + 1;
            }
            Due.is("sail", x.sail(seed), hours);
            int last = winds[hours - 1] + 1;
            Due.is("by " + seed + " of " + set + ", hour " + hours, x.ship(0), Due.state(0, place % 12, hours % 8, last));
        }
    }

    /** "the WIND of an HOUR is that of its set so far from the lowest on". */
    private static void drawFromTheLowestOn() {
        for (int set = 1; set <= 15; set++) {
            for (int seed = 0; seed < 12; seed++) {
                ShipUnstopped x = withCourse(12, 4);
                Due.rule(x, "speed wind+1;");
                x.winds(0, set);
                int so = (seed * 5 + 3) % Integer.bitCount(set);
                int wind = 0;
                while ((set >> wind & 1) == 0 || so > 0) {
                    so -= set >> wind & 1;
                    wind++;
                }
                x.sail(seed);
                Due.is("of " + set + " by " + seed, x.ship(0), Due.state(0, wind + 1, 1, wind + 1));
            }
        }
    }

    private static void drawsOfTheHourItIsIn() {
        ShipUnstopped x = withCourse(12, 4, 4, 4);
        Due.rule(x, "speed wind+1;");
        for (int i = 0; i < 7; i++) {
            x.go(4, 1);
        }
        x.winds(7, 8);
        x.winds(0, 1);
        x.winds(1, 4);
        int place = x.ship(0) / 40;
        x.sail(4);
        Due.is("hours 7, 0 and 1", x.ship(0), Due.state(0, (place + 4 + 1 + 3) % 12, 2, 3));
        Due.is("a day", x.ship(2), 1);
    }

    /** undo: "NONE: there is none." */
    private static void undoWithoutAny() {
        Twins.alike("undo of none", 6, x -> x.feed(0, 0, 0, 0, 0), x -> {
            x.feed(0, 0, 0, 0, 0);
            Due.is("undo", x.undo(), -1);
            x.go(4, 1);
            Due.is("undo", x.undo(), 0);
            Due.is("undo", x.undo(), -1);
            Due.is("undo", x.undo(), -1);
        });
    }

    /** "the latest first". */
    private static void undoTheLatestFirst() {
        ShipUnstopped x = new ShipUnstopped(5);
        int[] states = new int[12];
        for (int i = 0; i < 12; i++) {
            states[i] = x.ship(0);
            x.go(i % 2 == 0 ? 8 : 0, 1);
        }
        for (int i = 11; i >= 0; i--) {
            Due.is("how many can be yet", x.undo(), i);
            Due.is("state", x.ship(0), states[i]);
            Due.is("about(6)", x.about(6), i);
        }
    }

    /** "the latest 30". */
    private static void undoTheLatestThirty() {
        for (int hours = 28; hours <= 65; hours++) {
            ShipUnstopped x = new ShipUnstopped(7);
            for (int i = 0; i < hours; i++) {
                x.go(4, 1);
            }
            int kept = Math.min(30, hours);
            Due.is("about(6)", x.about(6), kept);
            for (int i = kept - 1; i >= 0; i--) {
                Due.is("undo", x.undo(), i);
            }
            Due.is("no more", x.undo(), -1);
            int first = hours - kept;
            Due.is("as ahead of the first of them", x.ship(0), Due.state(0, first % 7, first % 8, 1));
            Due.is("its days", x.ship(2), first / 8);
            Due.is("its laps", x.ship(3), first / 7);
        }
        ShipUnstopped x = new ShipUnstopped(7);
        for (int i = 0; i < 40; i++) {
            x.go(4, 1);
        }
        for (int i = 0; i < 10; i++) {
            x.undo();
        }
        for (int i = 0; i < 10; i++) {
            x.go(i % 2 == 0 ? 8 : 0, 1);
        }
        Due.is("as many again", x.about(6), 30);
        x.go(4, 1);
        Due.is("and no more", x.about(6), 30);
    }

    /** "Each HOUR that went by": each of a course alone. */
    private static void undoHoursOfACourse() {
        ShipUnstopped x = withCourse(12, 8, 4, 8, 4);
        x.sail(0);
        Due.is("undo", x.undo(), 3);
        Due.is("the last choice alone", x.ship(0), Due.state(2, 3, 3, 1));
        Due.is("undo", x.undo(), 2);
        Due.is("the last but one", x.ship(0), Due.state(1, 2, 2, 1));
        for (int i = 0; i < 20; i++) {
            x.course(4);
        }
        Due.is("stopped by the edge", x.sail(0), 2);
        x.course(-1);
        for (int i = 0; i < 24; i++) {
            x.course(4);
        }
        x.sail(0);
        x.sail(0);
        Due.is("the latest 30 of 52", x.about(6), 30);
    }

    /** "(or ended AGROUND)". */
    private static void undoAnHourThatEndedAground() {
        ShipUnstopped x = new ShipUnstopped(6);
        Due.rule(x, "speed sail+1;draught hour;");
        x.depth(0, 3, 0);
        x.go(5, 1);
        Due.is("aground", x.go(4, 1), Due.ground(0, 3));
        Due.is("two hours", x.about(6), 2);
        Due.is("undo", x.undo(), 1);
        Due.is("afloat", x.ship(1), 1);
        Due.is("state", x.ship(0), Due.state(0, 2, 1, 2));
        Due.is("and on by another lane", x.go(8, 1), Due.state(1, 3, 2, 1));
    }

    /** "(THE SHIP is as ahead of it)": LAPS and DAYS and LAST too. */
    private static void undoIsAsAheadOfIt() {
        ShipUnstopped x = new ShipUnstopped(4);
        Due.rule(x, "speed sail+1;draught 1;");
        for (int i = 0; i < 7; i++) {
            x.go(7, 1);
        }
        Due.is("laps", x.ship(3), 7);
        x.go(5, 1);
        Due.is("no lap", x.ship(3), 7);
        Due.is("a day", x.ship(2), 1);
        x.depth(0, 0, 0);
        Due.is("aground at 0", x.go(6, 1), Due.ground(0, 0));
        Due.is("a lap", x.ship(3), 8);
        x.undo();
        Due.is("laps", x.ship(3), 7);
        Due.is("state", x.ship(0), Due.state(0, 2, 0, 2));
        x.undo();
        Due.is("days", x.ship(2), 0);
        Due.is("state", x.ship(0), Due.state(0, 0, 7, 4));
        x.undo();
        Due.is("laps", x.ship(3), 6);
    }

    /** The same: THE SHIP alone. */
    private static void undoTheShipAlone() {
        ShipUnstopped x = new ShipUnstopped(6);
        x.go(4, 1);
        x.depth(1, 1, 1);
        x.rocks(3);
        x.winds(4, 5);
        x.weigh(7);
        x.course(4);
        x.goods(9);
        Due.rule(x, "speed 2;");
        x.feed(0, 0, 0, 0, 0);
        Due.is("undo", x.undo(), 0);
        int[][] due = {{33, 1}, {1, 3}, {14, 5}, {2, 7}, {5, 1}, {7, 1}, {3, 1}, {4, 0}, {9, 20}};
        for (int[] pair : due) {
            Due.is("about(" + pair[0] + ")", x.about(pair[0]), pair[1]);
        }
    }

    private static void whatWasRefusedIsNoHour() {
        ShipUnstopped x = new ShipUnstopped(6);
        x.go(4, 1);
        x.go(3, 1);
        x.go(4, 0);
        x.go(12, 1);
        x.course(0);
        x.sail(0);
        x.sail(-1);
        Due.is("one hour", x.about(6), 1);
        Due.is("undo", x.undo(), 0);
        Due.is("ship(0)", x.ship(0), 1);
    }

    /** "a LEAP forgets what can be taken back". */
    private static void aLeapForgets() {
        ShipUnstopped x = new ShipUnstopped(6);
        for (int i = 0; i < 40; i++) {
            x.go(4, 1);
        }
        int state = x.ship(0);
        x.leap(0, true);
        Due.is("about(6)", x.about(6), 0);
        Due.is("undo", x.undo(), -1);
        Due.is("where it is", x.ship(0), state);
        for (int i = 0; i < 40; i++) {
            x.go(4, 1);
        }
        Due.is("30 again", x.about(6), 30);
        x.leap(0, false);
        Due.is("a leave forgets too", x.about(6), 0);
    }
}
