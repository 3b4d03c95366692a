/**
 * Part I of the document and promises 1 to 5, 11, 12 and 16: each sentence that names a boundary case has a test of its own here,
 * under that sentence's words.
 */
public final class RingEdgeTests {
    private static final int MIN = Integer.MIN_VALUE;
    private static final int MAX = Integer.MAX_VALUE;

    public static void main(String[] args) {
        othersTheNearestOfThese();
        theImageIsTheNewObject();
        behindTheLastPlaceComesZero();
        depthAtFirstNine();
        depthWithinItsBounds();
        depthFalseForOthers();
        rocksAtFirstNone();
        rocksOfPlacesAlone();
        windsAtFirstOneAlone();
        windsNotEmpty();
        windsFalseForOthers();
        weightWithinItsBounds();
        weighFalseForOthers();
        theShipAtFirst();
        lapsAtPlaceZero();
        lapsPastPlaceZero();
        lapsAgroundThere();
        noLapAgroundAheadOfIt();
        aStateIsOneOfThese();
        theLaneMustBeThere();
        choicesAreTwelve();
        anyWindBecomes();
        speedOneAtLeastFourAtMost();
        speedWithoutIsOne();
        draughtZeroAtLeastNineAtMost();
        draughtWithoutIsZero();
        depthLessThanDraught();
        agroundAtTheFirstPlace();
        notWhereItSetsOut();
        roundToWhereItSetOut();
        rocksWhileTideIsntSo();
        tideWithoutIsSo();
        itStaysThereForEver();
        behindHourSevenZero();
        agroundNoHourGoesBy();
        lastIsTheSpeed();
        agroundAnswersTwoThousand();
        becomesDoesNothing();
        goIfItCantBe();
        shipNoneForOthers();
        Due.close("RingEdgeTests");
    }

    /** "N PLACES (4 to 12; others: the nearest of these)". */
    private static void othersTheNearestOfThese() {
        int[][] told = {{MIN, 4}, {-5, 4}, {0, 4}, {3, 4}, {4, 4}, {5, 5}, {8, 8}, {11, 11}, {12, 12}, {13, 12}, {100, 12}, {MAX, 12}};
        for (int[] pair : told) {
            ShipUnstopped x = new ShipUnstopped(pair[0]);
            Due.is("N of " + pair[0], x.about(0), pair[1]);
            Due.yes("its last place", x.depth(1, pair[1] - 1, 3));
            Due.no("none behind it", x.depth(1, pair[1], 3));
        }
    }

    /** "THE IMAGE is this." */
    private static void theImageIsTheNewObject() {
        for (int places : new int[] {4, 7, 12}) {
            // an image doesn't hold the latest fault, so both have the same one
            Twins.alike("back() to the new object", places, x -> {
                Due.feed(x, "!");
                x.text();
            }, x -> {
                Due.rule(x, "speed 2;");
                x.depth(2, 3, 1);
                x.rocks(9);
                x.winds(7, 15);
                x.weigh(99);
                x.course(4);
                x.go(4, 1);
                x.goods(9);
                x.leap(9, true);
                Due.feed(x, "!");
                x.text();
                Due.is("back()", x.back(), 0);
            });
        }
    }

    /** "behind the last one comes 0". */
    private static void behindTheLastPlaceComesZero() {
        for (int n = 4; n <= 12; n++) {
            ShipUnstopped x = new ShipUnstopped(n);
            Due.rule(x, "speed sail+1;");
            for (int place = 0; place < n; place++) {
                for (int sail = 0; sail < 4; sail++) {
                    int to = place;
                    for (int i = 0; i <= sail; i++) {
                        to = to == n - 1 ? 0 : to + 1;
                    }
                    Due.is(n + " places, from " + place, x.becomes(Due.state(0, place, 2, 1), 4 + sail, 1), Due.state(0, to, 3, sail + 1));
                }
            }
            Due.is("reach behind the last", x.reach(Due.state(1, n - 1, 0, 1), 1, 1), 15);
        }
    }

    /** "DEPTH of each (0 .. 9; at first 9)". */
    private static void depthAtFirstNine() {
        for (int n = 4; n <= 12; n++) {
            ShipUnstopped x = new ShipUnstopped(n);
            for (int lane = 0; lane < 3; lane++) {
                for (int place = 0; place < 12; place++) {
                    Due.is("depth", x.about(20 + 12 * lane + place), place < n ? 9 : -2);
                }
            }
        }
    }

    /** "DEPTH of a LANE's PLACE: true." */
    private static void depthWithinItsBounds() {
        for (int n : new int[] {4, 9, 12}) {
            ShipUnstopped x = new ShipUnstopped(n);
            for (int lane = 0; lane < 3; lane += 2) {
                for (int place = 0; place < n; place += n - 1) {
                    for (int d = 0; d <= 9; d++) {
                        Due.yes("depth", x.depth(lane, place, d));
                        Due.is("it is so", x.about(20 + 12 * lane + place), d);
                    }
                }
            }
        }
        ShipUnstopped x = new ShipUnstopped(12);
        x.depth(1, 5, 2);
        for (int i = 0; i < 36; i++) {
            Due.is("that one alone", x.about(20 + i), i == 17 ? 2 : 9);
        }
    }

    /** depth: "False for others." */
    private static void depthFalseForOthers() {
        int[][] others = {{-1, 0, 5}, {3, 0, 5}, {MIN, 0, 5}, {MAX, 0, 5}, {0, -1, 5}, {1, -1, 5}, {0, 7, 5}, {1, 11, 5}, {0, 12, 5},
            {2, 12, 5}, {0, MIN, 5}, {0, MAX, 5}, {0, 0, -1}, {0, 0, 10}, {2, 6, MIN}, {2, 6, MAX}};
        for (int[] o : others) {
            Twins.unchanged("depth " + o[0] + " " + o[1] + " " + o[2], x -> Due.no("depth of others", x.depth(o[0], o[1], o[2])));
        }
    }

    /** "ROCKS: a set of PLACES (bits; at first none)." */
    private static void rocksAtFirstNone() {
        ShipUnstopped x = new ShipUnstopped(5);
        Due.is("about(1)", x.about(1), 0);
        Due.rule(x, "tide 1=2;");
        Due.is("no rocks", x.becomes(1, 4, 1), Due.state(0, 1, 1, 1));
    }

    /** rocks: "False for others." */
    private static void rocksOfPlacesAlone() {
        for (int n = 4; n <= 12; n++) {
            ShipUnstopped x = new ShipUnstopped(n);
            Due.yes("each place", x.rocks((1 << n) - 1));
            for (int set : new int[] {1 << n, (1 << n) + 1, 1 << 12, MAX, -1, MIN}) {
                Due.no("rocks of others", x.rocks(set));
                Due.is("as it was", x.about(1), (1 << n) - 1);
            }
            Due.yes("the last place", x.rocks(1 << n - 1));
            Due.is("about(1)", x.about(1), 1 << n - 1);
            Due.yes("none", x.rocks(0));
            Due.is("about(1)", x.about(1), 0);
        }
        Twins.unchanged("rocks", x -> Due.no("rocks(128)", x.rocks(128)));
        Twins.unchanged("rocks", x -> Due.no("rocks(-1)", x.rocks(-1)));
    }

    /** "WINDS of an HOUR: a set of 0 .. 3 (bits, not empty; at first 1 alone)." */
    private static void windsAtFirstOneAlone() {
        ShipUnstopped x = new ShipUnstopped(5);
        for (int hour = 0; hour < 8; hour++) {
            Due.is("winds", x.about(10 + hour), 2);
            Due.is("not by 0", x.go(4, 0), -1);
            Due.is("not by 2", x.go(4, 2), -1);
            Due.is("not by 3", x.go(4, 3), -1);
            Due.yes("by 1", x.go(4, 1) >= 0);
        }
    }

    /** "WINDS of an HOUR (1 .. 15): true." */
    private static void windsNotEmpty() {
        ShipUnstopped x = new ShipUnstopped(5);
        for (int hour = 0; hour < 8; hour++) {
            for (int set = 1; set <= 15; set++) {
                Due.yes("winds", x.winds(hour, set));
                Due.is("about", x.about(10 + hour), set);
            }
            Due.is("the next hour", x.about(10 + (hour + 1) % 8), hour == 7 ? 15 : 2);
        }
        Due.no("empty", x.winds(3, 0));
        Due.is("as it was", x.about(13), 15);
    }

    /** winds: "False for others." */
    private static void windsFalseForOthers() {
        int[][] others = {{-1, 1}, {8, 1}, {MIN, 1}, {MAX, 1}, {0, 0}, {7, 16}, {5, -1}, {0, MIN}, {0, MAX}, {-1, 0}, {8, 16}};
        for (int[] o : others) {
            Twins.unchanged("winds " + o[0] + " " + o[1], x -> Due.no("winds of others", x.winds(o[0], o[1])));
        }
    }

    /** "WEIGHT (0 .. 99; at first 0)." */
    private static void weightWithinItsBounds() {
        ShipUnstopped x = new ShipUnstopped(5);
        Due.is("at first", x.about(2), 0);
        for (int w = 99; w >= 0; w--) {
            Due.yes("weigh", x.weigh(w));
            Due.is("about(2)", x.about(2), w);
        }
    }

    /** weigh: "False for others." */
    private static void weighFalseForOthers() {
        for (int w : new int[] {-1, 100, 101, MIN, MAX}) {
            Twins.unchanged("weigh " + w, x -> Due.no("weigh of others", x.weigh(w)));
        }
    }

    /** "at first 0, 0, 0, 1; DAYS and LAPS .. 0; AFLOAT". */
    private static void theShipAtFirst() {
        for (int n = 4; n <= 12; n++) {
            ShipUnstopped x = new ShipUnstopped(n);
            Due.is("state", x.ship(0), 1);
            Due.is("afloat", x.ship(1), 1);
            Due.is("days", x.ship(2), 0);
            Due.is("laps: where it stands at first isn't one", x.ship(3), 0);
            Due.is("nothing can be taken back", x.about(6), 0);
        }
    }

    /** "LAPS (how often it came to PLACE 0 ..". */
    private static void lapsAtPlaceZero() {
        for (int n = 4; n <= 12; n++) {
            ShipUnstopped x = new ShipUnstopped(n);
            for (int i = 1; i <= 3 * n; i++) {
                x.go(4, 1);
                Due.is("laps", x.ship(3), i / n);
            }
        }
    }

    /** The same: it comes to each PLACE "one by one", so to 0 on its way too; once an HOUR at most. */
    private static void lapsPastPlaceZero() {
        for (int n = 4; n <= 12; n++) {
            for (int speed = 2; speed <= 4; speed++) {
                ShipUnstopped x = new ShipUnstopped(n);
                Due.rule(x, "speed " + speed + ";");
                for (int i = 1; i <= 20; i++) {
                    x.go(4, 1);
                    Due.is("laps of " + n + " by " + speed, x.ship(3), i * speed / n);
                }
            }
        }
    }

    /** ".. AGROUND there as well)". */
    private static void lapsAgroundThere() {
        ShipUnstopped x = new ShipUnstopped(4);
        Due.rule(x, "speed 4;draught 1;");
        x.depth(0, 0, 0);
        Due.is("aground at 0", x.go(4, 1), Due.ground(0, 0));
        Due.is("a lap", x.ship(3), 1);
        ShipUnstopped y = new ShipUnstopped(5);
        Due.rule(y, "speed 3;draught hour;");
        y.depth(0, 1, 0);
        y.go(4, 1);
        Due.is("aground at 1, past 0", y.go(4, 1), Due.ground(0, 1));
        Due.is("a lap", y.ship(3), 1);
    }

    private static void noLapAgroundAheadOfIt() {
        ShipUnstopped x = new ShipUnstopped(4);
        Due.rule(x, "speed 4;draught 1;");
        x.depth(0, 3, 0);
        Due.is("aground at 3", x.go(4, 1), Due.ground(0, 3));
        Due.is("no lap", x.ship(3), 0);
    }

    /** "A STATE: ((12 LANE + PLACE) times 8 and HOUR) times 5 and LAST (1 .. 4; PLACE below N)." */
    private static void aStateIsOneOfThese() {
        for (int n : new int[] {4, 11, 12}) {
            ShipUnstopped x = new ShipUnstopped(n);
            for (int s = -45; s <= 1490; s++) {
                // an object is used for at most 512 calls
                x = s % 250 == 0 ? new ShipUnstopped(n) : x;
                boolean is = s >= 0 && s < 1440 && s % 5 > 0 && s / 40 % 12 < n;
                Due.yes("becomes of " + s, x.becomes(s, 4, 1) >= 0 == is);
                Due.yes("kept of " + s, x.kept(s, 0) == is);
            }
            for (int s : new int[] {MIN, MIN + 1, MAX, MAX - 1, 1441, 2000, -1439}) {
                Due.is("becomes of no state", x.becomes(s, 4, 1), -1);
            }
        }
    }

    /** "STEER -1, 0, 1 to the LANE so many on (it must be there)"; becomes: "NONE: the LANE isn't there". */
    private static void theLaneMustBeThere() {
        ShipUnstopped x = new ShipUnstopped(6);
        for (int lane = 0; lane < 3; lane++) {
            for (int choice = 0; choice < 12; choice++) {
                int to = lane + choice / 4 - 1;
                int due = to < 0 || to > 2 ? -1 : Due.state(to, 3, 5, 1);
                Due.is("from lane " + lane + " by " + choice, x.becomes(Due.state(lane, 2, 4, 3), choice, 1), due);
            }
        }
        Due.is("go off lane 0", x.go(3, 1), -1);
        x.go(8, 1);
        x.go(8, 1);
        Due.is("go off lane 2", x.go(8, 1), -1);
        Due.is("no hour went by", x.about(6), 2);
        Due.is("but lane 2 goes on", x.go(4, 1), Due.state(2, 3, 3, 1));
    }

    /** "A CHOICE: 4 times (STEER and 1) and SAIL: .. SAIL 0 .. 3." */
    private static void choicesAreTwelve() {
        for (int choice : new int[] {-1, -2, -4, 12, 13, 16, MIN, MAX}) {
            ShipUnstopped x = new ShipUnstopped(6);
            Due.is("becomes by " + choice, x.becomes(Due.state(1, 0, 0, 1), choice, 1), -1);
            Due.is("go by " + choice, x.go(choice, 1), -1);
            Due.is("no hour went by", x.about(6), 0);
        }
        ShipUnstopped x = new ShipUnstopped(12);
        Due.rule(x, "speed sail+1;");
        for (int choice = 0; choice < 12; choice++) {
            Due.is("by " + choice, x.becomes(Due.state(1, 0, 0, 1), choice, 1), Due.state(choice / 4, choice % 4 + 1, 1, choice % 4 + 1));
        }
    }

    /** becomes: "a WIND (any of 0 .. 3)"; "NONE .. for others". */
    private static void anyWindBecomes() {
        ShipUnstopped x = new ShipUnstopped(12);
        Due.rule(x, "speed wind+1;");
        for (int wind = 0; wind < 4; wind++) {
            Due.is("wind " + wind, x.becomes(1, 4, wind), Due.state(0, wind + 1, 1, wind + 1));
        }
        for (int wind : new int[] {-1, 4, 5, 32, 33, MIN, MAX}) {
            Due.is("no wind " + wind, x.becomes(1, 4, wind), -1);
            Due.is("no wind to go by " + wind, x.go(4, wind), -1);
        }
    }

    /** "its speed is speed (1 at least, 4 at most ..". */
    private static void speedOneAtLeastFourAtMost() {
        String[] sums = {"-9999*9999", "-1", "0", "1", "2", "3", "4", "5", "9999", "9999*9999"};
        int[] speeds = {1, 1, 1, 1, 2, 3, 4, 4, 4, 4};
        for (int i = 0; i < sums.length; i++) {
            ShipUnstopped x = new ShipUnstopped(9);
            Due.rule(x, "speed " + sums[i] + ";");
            Due.is("speed " + sums[i], x.becomes(1, 4, 1), Due.state(0, speeds[i], 1, speeds[i]));
            Due.is("reach by " + sums[i], x.reach(1, 1, 0), 1 << speeds[i]);
            Due.is("go by " + sums[i], x.go(4, 1), Due.state(0, speeds[i], 1, speeds[i]));
        }
    }

    /** ".. without: 1)". */
    private static void speedWithoutIsOne() {
        ShipUnstopped x = new ShipUnstopped(9);
        Due.is("no text", x.becomes(Due.state(0, 0, 0, 4), 7, 3), Due.state(0, 1, 1, 1));
        Due.rule(x, "draught 1;tide 1=1;");
        Due.is("a text without", x.becomes(Due.state(0, 0, 0, 4), 7, 3), Due.state(0, 1, 1, 1));
        Due.is("reach", x.reach(Due.state(0, 0, 0, 4), 1, 0), 2);
    }

    /** "draught (0 at least, 9 at most ..". */
    private static void draughtZeroAtLeastNineAtMost() {
        String[] sums = {"-9999*9999", "-1", "0", "1", "8", "9", "10", "9999*9999"};
        int[] draughts = {0, 0, 0, 1, 8, 9, 9, 9};
        for (int i = 0; i < sums.length; i++) {
            ShipUnstopped x = new ShipUnstopped(9);
            Due.rule(x, "draught " + sums[i] + ";");
            for (int d = 0; d <= 9; d++) {
                x.depth(0, 1, d);
                int due = d < draughts[i] ? Due.ground(0, 1) : Due.state(0, 1, 1, 1);
                Due.is("draught " + sums[i] + " at depth " + d, x.becomes(1, 4, 1), due);
                Due.is("reach", x.reach(1, 1, 0), d < draughts[i] ? 0 : 2);
            }
        }
    }

    /** ".. without: 0)". */
    private static void draughtWithoutIsZero() {
        ShipUnstopped x = new ShipUnstopped(4);
        x.depth(0, 1, 0);
        Due.is("no text", x.becomes(1, 4, 1), Due.state(0, 1, 1, 1));
        Due.rule(x, "speed 1;tide 1=1;");
        Due.is("a text without", x.becomes(1, 4, 1), Due.state(0, 1, 1, 1));
        Due.yes("kept", x.kept(1, -1));
    }

    /** "whose DEPTH is less than draught": as deep is enough. */
    private static void depthLessThanDraught() {
        for (int draught = 1; draught <= 9; draught++) {
            ShipUnstopped x = new ShipUnstopped(6);
            Due.rule(x, "draught " + draught + ";");
            x.depth(0, 1, draught);
            Due.is("as deep", x.becomes(1, 4, 1), Due.state(0, 1, 1, 1));
            x.depth(0, 1, draught - 1);
            Due.is("one less", x.becomes(1, 4, 1), Due.ground(0, 1));
        }
    }

    /** "AGROUND at the first PLACE to which it comes", by the draught of its whole speed. */
    private static void agroundAtTheFirstPlace() {
        for (int speed = 1; speed <= 4; speed++) {
            for (int shallows = 0; shallows < 64; shallows++) {
                ShipUnstopped x = new ShipUnstopped(6);
                Due.rule(x, "speed sail+1;draught fast;");
                for (int place = 0; place < 6; place++) {
                    x.depth(1, place, (shallows >> place & 1) == 1 ? speed - 1 : speed);
                }
                int due = Due.state(1, (4 + speed) % 6, 1, speed);
                for (int i = speed; i >= 1; i--) {
                    due = (shallows >> (4 + i) % 6 & 1) == 1 ? Due.ground(1, (4 + i) % 6) : due;
                }
                Due.is("from 4 by " + speed, x.becomes(Due.state(1, 4, 0, 1), 3 + speed, 1), due);
            }
        }
    }

    /** The same: where it sets out it doesn't come to, nor is it in the old LANE. */
    private static void notWhereItSetsOut() {
        ShipUnstopped x = new ShipUnstopped(6);
        Due.rule(x, "speed 2;draught 5;tide 1=2;");
        x.depth(0, 0, 0);
        x.depth(1, 0, 0);
        x.rocks(1);
        Due.is("from a shallow with rocks", x.becomes(1, 4, 1), Due.state(0, 2, 1, 2));
        x.depth(0, 1, 0);
        x.depth(0, 2, 0);
        Due.is("by the new lane", x.becomes(1, 8, 1), Due.state(1, 2, 1, 2));
        Due.is("by the old one", x.becomes(1, 4, 1), Due.ground(0, 1));
        Due.is("nor behind where it ends", x.becomes(Due.state(0, 4, 0, 1), 4, 1), Due.ground(0, 0));
        Due.is("nor behind where it ends", x.becomes(Due.state(0, 3, 0, 1), 4, 1), Due.state(0, 5, 1, 2));
    }

    private static void roundToWhereItSetOut() {
        ShipUnstopped x = new ShipUnstopped(4);
        Due.rule(x, "speed sail+1;draught 1;");
        x.depth(0, 2, 0);
        Due.is("a place short of it", x.becomes(Due.state(0, 2, 0, 1), 6, 1), Due.state(0, 1, 1, 3));
        Due.is("round to it", x.becomes(Due.state(0, 2, 0, 1), 7, 1), Due.ground(0, 2));
    }

    /** "or that has ROCKS while tide isn't so". */
    private static void rocksWhileTideIsntSo() {
        ShipUnstopped x = new ShipUnstopped(6);
        Due.rule(x, "speed 3;tide hour=4 or place=2;");
        x.rocks(63);
        for (int hour = 0; hour < 8; hour++) {
            int free = Due.state(2, 4, (hour + 1) % 8, 3);
            Due.is("1 is bare but for hour 4", x.becomes(Due.state(2, 0, hour, 1), 4, 1), hour == 4 ? free - 40 : Due.ground(2, 1));
            Due.is("3 is bare but for hour 4", x.becomes(Due.state(2, 1, hour, 1), 4, 1), hour == 4 ? free : Due.ground(2, 3));
        }
        x.rocks(63 - 8);
        Due.is("no rocks at 3, bare at 4", x.becomes(Due.state(2, 1, 0, 1), 4, 1), Due.ground(2, 4));
        x.rocks(63 - 8 - 16);
        Due.is("no rocks at 3 and 4", x.becomes(Due.state(2, 1, 0, 1), 4, 1), Due.state(2, 4, 1, 3));
        Due.is("rocks are in every lane", x.becomes(Due.state(0, 3, 0, 1), 8, 1), Due.ground(1, 5));
    }

    /** ".. (without: it is)". */
    private static void tideWithoutIsSo() {
        ShipUnstopped x = new ShipUnstopped(6);
        x.rocks(63);
        Due.is("no text", x.becomes(1, 4, 1), Due.state(0, 1, 1, 1));
        Due.rule(x, "speed 4;draught 9;");
        Due.is("a text without", x.becomes(1, 4, 1), Due.state(0, 4, 1, 4));
        Due.yes("kept", x.kept(1, -1));
    }

    /** "it stays there, for ever." */
    private static void itStaysThereForEver() {
        ShipUnstopped x = new ShipUnstopped(6);
        Due.rule(x, "draught 5;");
        x.depth(0, 1, 4);
        Due.is("aground", x.go(4, 1), Due.ground(0, 1));
        x.depth(0, 1, 9);
        x.by(-1);
        x.course(4);
        for (int i = 0; i < 20; i++) {
            Due.is("go", x.go(4 + i % 5, 1), -1);
            Due.is("sail", x.sail(i), 0);
        }
        Due.is("leap", x.leap(0, true), -1);
        Due.is("still there", x.ship(0), Due.state(0, 1, 0, 1));
        Due.is("aground", x.ship(1), 0);
        Due.is("one hour can be taken back", x.about(6), 1);
        Due.yes("what it could do from there is told all the same", x.becomes(x.ship(0), 4, 1) == Due.state(0, 2, 1, 1));
        // it is in the new LANE then
        for (int lane = 0; lane < 3; lane += 2) {
            ShipUnstopped y = new ShipUnstopped(6);
            y.go(8, 1);
            Due.rule(y, "draught 1;");
            y.depth(lane, 2, 0);
            Due.is("aground", y.go(4 * lane, 1), Due.ground(lane, 2));
            Due.is("there", y.ship(0), Due.state(lane, 2, 1, 1));
        }
    }

    /** "Else HOUR is one more (behind 7: 0, and DAYS one more)". */
    private static void behindHourSevenZero() {
        ShipUnstopped x = new ShipUnstopped(7);
        for (int i = 1; i <= 50; i++) {
            x.go(4, 1);
            Due.is("hour", x.ship(0) / 5 % 8, i % 8);
            Due.is("days", x.ship(2), i / 8);
        }
        Due.is("becomes of hour 7", x.becomes(Due.state(2, 6, 7, 2), 4, 0), Due.state(2, 0, 0, 1));
        Due.is("becomes of hour 6", x.becomes(Due.state(2, 6, 6, 2), 4, 0), Due.state(2, 0, 7, 1));
    }

    /** The same: "Else", so HOUR, DAYS and LAST stay in an HOUR that ends AGROUND. */
    private static void agroundNoHourGoesBy() {
        ShipUnstopped x = new ShipUnstopped(9);
        Due.rule(x, "speed 1+hour/7*2;draught hour/7;");
        x.depth(0, 8, 0);
        for (int i = 0; i < 7; i++) {
            x.go(4, 1);
        }
        Due.is("in hour 7", x.ship(0), Due.state(0, 7, 7, 1));
        Due.is("aground", x.go(4, 1), Due.ground(0, 8));
        Due.is("hour 7 and last 1 yet", x.ship(0), Due.state(0, 8, 7, 1));
        Due.is("no day", x.ship(2), 0);
    }

    /** "LAST the speed": as it was cut to its bounds. */
    private static void lastIsTheSpeed() {
        ShipUnstopped x = new ShipUnstopped(12);
        Due.rule(x, "speed last*2;");
        Due.is("2", x.go(4, 1), Due.state(0, 2, 1, 2));
        Due.is("4", x.go(4, 1), Due.state(0, 6, 2, 4));
        Due.is("8 is 4", x.go(4, 1), Due.state(0, 10, 3, 4));
        Due.rule(x, "speed last-8;");
        Due.is("-4 is 1", x.go(4, 1), Due.state(0, 11, 4, 1));
    }

    /** "2000 and 12 times the LANE and the PLACE: AGROUND there." */
    private static void agroundAnswersTwoThousand() {
        for (int n : new int[] {4, 12}) {
            ShipUnstopped x = new ShipUnstopped(n);
            Due.rule(x, "tide 1=2;");
            x.rocks((1 << n) - 1);
            for (int lane = 0; lane < 3; lane++) {
                for (int place = 0; place < n; place++) {
                    Due.is("aground", x.becomes(Due.state(lane, (place + n - 1) % n, 3, 2), 5, 0), 2000 + 12 * lane + place);
                }
            }
        }
    }

    private static void becomesDoesNothing() {
        Twins.unchanged("becomes", x -> {
            for (int choice = -1; choice <= 12; choice++) {
                x.becomes(x.ship(0), choice, 1);
            }
        });
    }

    /** go: "NONE, if it can't be (AGROUND, a WIND that isn't of the HOUR, too)." */
    private static void goIfItCantBe() {
        int[][] others = {{4, -1}, {4, 4}, {4, MIN}, {4, MAX}, {-1, 1}, {12, 1}, {MIN, 1}, {MAX, 1}};
        for (int[] o : others) {
            Twins.unchanged("go", x -> Due.is("go(" + o[0] + ", " + o[1] + ")", x.go(o[0], o[1]), -1));
        }
        for (int set = 1; set <= 15; set++) {
            for (int wind = 0; wind < 4; wind++) {
                ShipUnstopped x = new ShipUnstopped(6);
                x.winds(0, set);
                boolean blows = (set >> wind & 1) == 1;
                Due.is("go by " + wind + " of " + set, x.go(4, wind), blows ? Due.state(0, 1, 1, 1) : -1);
                Due.is("hours", x.about(6), blows ? 1 : 0);
            }
        }
        ShipUnstopped x = new ShipUnstopped(6);
        Due.rule(x, "tide 1=2;");
        x.rocks(2);
        Due.is("aground", x.go(4, 1), Due.ground(0, 1));
        Due.is("aground: none", x.go(4, 1), -1);
        Due.is("one hour", x.about(6), 1);
        // the winds are those of the hour it is in, not of another
        ShipUnstopped y = new ShipUnstopped(6);
        y.winds(1, 8);
        Due.is("hour 0", y.go(4, 3), -1);
        y.go(4, 1);
        Due.is("hour 1", y.go(4, 1), -1);
        Due.is("hour 1", y.go(4, 3), Due.state(0, 2, 2, 1));
    }

    /** ship: "NONE for others." */
    private static void shipNoneForOthers() {
        for (int what : new int[] {-1, -2, 4, 5, 8, MIN, MAX}) {
            Twins.unchanged("ship", x -> Due.is("ship(" + what + ")", x.ship(what), -1));
        }
    }
}
