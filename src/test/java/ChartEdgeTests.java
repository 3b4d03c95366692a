/**
 * Part IV of the document and promises 17 to 22: each sentence that names a boundary case has a test of its own here, under that
 * sentence's words.
 */
public final class ChartEdgeTests {
    private static final int MIN = Integer.MIN_VALUE;
    private static final int MAX = Integer.MAX_VALUE;
    private static final int[] NO_STATES = {-1, -5, 0, 5, 40, 480, 1440, 1441, 1480, 2001, MIN, MAX, Due.state(0, 7, 0, 1), Due.state(2, 11, 7, 4),
        Due.state(1, 7, 3, 2)};

    public static void main(String[] args) {
        questionsChangeNothing();
        ofNoState();
        fromAStateAsTold();
        reachInNoHours();
        reachInTwentyFour();
        reachNoneForOthers();
        reachAfloatAlone();
        reachBySomeChoicesAndWinds();
        reachPastTheLastHour();
        keptForNoHoursAlways();
        keptToNinetyNine();
        keptFalseForOthers();
        keptByEachWind();
        keptByOneChoiceAlone();
        keptByALaneThatIsThere();
        keptForEverIsForAnyN();
        thinkNoneWhereAllAreKept();
        thinkOneWhereNoneIs();
        thinkOfAllStates();
        thinkAboveNinetyNine();
        bestTheLowest();
        bestByEachWind();
        bestNoneIfNotKept();
        betweenWhereItStandsIsntOne();
        betweenOneToFiveTimes();
        betweenNoneForOthers();
        betweenEachEndingAfloat();
        betweenPastCounts();
        betweenForSureOrWithLuck();
        betweenSeeingWhereItIs();
        betweenIsDoneWhenItHasCome();
        betweenWithinNinetyNine();
        meetOneAtLeast();
        meetFromTheHthHourOn();
        meetToTheEighthBehindIt();
        meetToFortyEight();
        meetNoneForOthers();
        meetAtTheEndOfAnHour();
        meetWithThatSpeedAsLast();
        meetInAnyLane();
        changesCountAtOnce();
        Due.close("ChartEdgeTests");
    }

    private static void allLanes(ShipUnstopped x, int place, int d) {
        for (int lane = 0; lane < 3; lane++) {
            x.depth(lane, place, d);
        }
    }

    private static void allHours(ShipUnstopped x, int set) {
        for (int hour = 0; hour < 8; hour++) {
            x.winds(hour, set);
        }
    }

    private static void questionsChangeNothing() {
        Twins.unchanged("questions", x -> {
            int state = x.ship(0);
            x.reach(state, 24, 1);
            x.kept(state, 99);
            x.kept(state, -1);
            x.think();
            x.best(state);
            x.between(state, 3, 5, true);
            x.between(state, 3, 5, false);
            x.meet(state, 2, 48, 3);
            x.reach(state, 25, 1);
            x.between(state, 7, 5, true);
            x.meet(state, 2, 49, 3);
        });
    }

    /** reach, kept, best, between, meet: "for others" of a STATE that is none (of seven PLACES). */
    private static void ofNoState() {
        for (int s : NO_STATES) {
            ShipUnstopped x = new ShipUnstopped(7);
            Due.is("reach of " + s, x.reach(s, 0, 0), -1);
            Due.no("kept of " + s, x.kept(s, 0));
            Due.no("kept of " + s, x.kept(s, -1));
            Due.is("best of " + s, x.best(s), -1);
            Due.is("between of " + s, x.between(s, 0, 1, true), -1);
            Due.is("between of " + s, x.between(s, 0, 1, false), -1);
            Due.is("meet of " + s, x.meet(s, 1, 0, 1), -1);
        }
        ShipUnstopped x = new ShipUnstopped(7);
        int last = Due.state(2, 6, 7, 4);
        Due.is("reach of the last state", x.reach(last, 1, 2), 1);
        Due.yes("kept", x.kept(last, -1));
        Due.is("best", x.best(last), 0);
        Due.is("between", x.between(last, 0, 1, true), 1);
        Due.is("meet", x.meet(last, 0, 0, 1), 1);
    }

    /** "From a STATE (as told: LANE, PLACE, HOUR, LAST)": whatever THE SHIP does, and however shallow it is there. */
    private static void fromAStateAsTold() {
        ShipUnstopped x = new ShipUnstopped(6);
        Due.rule(x, "draught 1;");
        x.depth(0, 1, 0);
        x.go(4, 1);
        Due.is("the ship is aground", x.ship(1), 0);
        int there = x.ship(0);
        Due.is("reach", x.reach(there, 0, 0), 2);
        Due.is("reach", x.reach(there, 1, 0), 4);
        Due.yes("kept", x.kept(there, -1));
        Due.is("best", x.best(there), 4);
        Due.is("between", x.between(there, 2, 1, true), 1);
        Due.is("meet", x.meet(there, 2, 0, 1), 1);
    }

    /** "REACH in n HOURS (0 .. 24)": in 0 it is where it is. */
    private static void reachInNoHours() {
        ShipUnstopped x = new ShipUnstopped(12);
        for (int lane = 0; lane < 3; lane++) {
            for (int place = 0; place < 12; place++) {
                for (int other = 0; other < 3; other++) {
                    Due.is("reach", x.reach(Due.state(lane, place, 3, 2), 0, other), lane == other ? 1 << place : 0);
                }
            }
        }
    }

    private static void reachInTwentyFour() {
        for (int n = 4; n <= 12; n++) {
            ShipUnstopped x = new ShipUnstopped(n);
            for (int hours = 0; hours <= 24; hours++) {
                Due.is("by 1 an hour", x.reach(Due.state(1, 1, 6, 1), hours, 1), 1 << (1 + hours) % n);
                Due.is("beside", x.reach(Due.state(1, 1, 6, 1), hours, 2), hours == 0 ? 0 : 1 << (1 + hours) % n);
            }
        }
    }

    /** reach: "NONE for others." */
    private static void reachNoneForOthers() {
        ShipUnstopped x = new ShipUnstopped(6);
        for (int n : new int[] {-1, -2, 25, 26, MIN, MAX}) {
            Due.is("in " + n + " hours", x.reach(1, n, 0), -1);
        }
        for (int lane : new int[] {-1, -2, 3, 4, MIN, MAX}) {
            Due.is("in lane " + lane, x.reach(1, 0, lane), -1);
            Due.is("in lane " + lane, x.reach(1, 24, lane), -1);
        }
    }

    /** "at which it can be AFLOAT behind them": none is an empty set. */
    private static void reachAfloatAlone() {
        ShipUnstopped x = new ShipUnstopped(6);
        Due.rule(x, "speed sail+1;draught 1;");
        allLanes(x, 3, 0);
        Due.is("two places", x.reach(1, 1, 0), 6);
        Due.is("the last of them", x.reach(1, 2, 0), 4);
        Due.is("nowhere", x.reach(1, 3, 0), 0);
        Due.is("nowhere", x.reach(1, 24, 2), 0);
        Due.is("nowhere at once", x.reach(Due.state(1, 2, 0, 1), 1, 1), 0);
    }

    /** "by some CHOICES and some WINDS". */
    private static void reachBySomeChoicesAndWinds() {
        ShipUnstopped x = new ShipUnstopped(12);
        Due.rule(x, "speed wind+1;");
        x.winds(0, 9);
        Due.is("either wind", x.reach(1, 1, 0), 1 << 1 | 1 << 4);
        x.winds(1, 12);
        Due.is("and then either", x.reach(1, 2, 2), 1 << 4 | 1 << 5 | 1 << 7 | 1 << 8);
        Due.is("lane 2 is two hours on", x.reach(1, 1, 2), 0);
        Due.is("and lane 0 from it", x.reach(Due.state(2, 0, 0, 1), 1, 0), 0);
        Due.yes("and lane 0 from it", x.reach(Due.state(2, 0, 0, 1), 2, 0) != 0);
        Due.rule(x, "speed sail+1;");
        Due.is("any sail", x.reach(1, 1, 1), 30);
        // 1, 2 or 4 in hour 0; in hour 1 one less than that, 1 at least
        Due.rule(x, "speed sail*2*(1-hour)+hour*(last-1);");
        Due.is("by last", x.reach(1, 2, 0), 1 << 2 | 1 << 3 | 1 << 7);
    }

    private static void reachPastTheLastHour() {
        ShipUnstopped x = new ShipUnstopped(12);
        Due.rule(x, "speed 1+3*(hour/7);");
        Due.is("hour 7", x.reach(Due.state(0, 0, 7, 1), 1, 0), 16);
        Due.is("hours 7 and 0", x.reach(Due.state(0, 0, 7, 1), 2, 0), 32);
        Due.is("hours 7 to 7", x.reach(Due.state(0, 0, 7, 1), 9, 0), 1 << 15 - 12);
        Due.is("hours 0 to 6", x.reach(1, 7, 0), 1 << 7);
        Due.is("hours 0 to 7", x.reach(1, 8, 0), 1 << 11);
    }

    /** "(0: always)". */
    private static void keptForNoHoursAlways() {
        ShipUnstopped x = new ShipUnstopped(5);
        Due.rule(x, "draught 9;");
        for (int place = 0; place < 5; place++) {
            allLanes(x, place, 0);
        }
        for (int i = 0; i < 60; i++) {
            int s = Due.state(i % 3, i % 5, i % 8, i % 4 + 1);
            Due.yes("kept for 0", x.kept(s, 0));
            Due.no("kept for 1", x.kept(s, 1));
            Due.no("for ever", x.kept(s, -1));
        }
    }

    /** kept: "n HOURS (0 .. 99; NONE: FOR EVER)". */
    private static void keptToNinetyNine() {
        ShipUnstopped x = new ShipUnstopped(8);
        for (int n = -1; n <= 99; n++) {
            Due.yes("kept for " + n, x.kept(1, n));
        }
        // in eight places of speed 1 it comes to place 7 in hour 6 alone, or never
        Due.rule(x, "tide hour#6;");
        x.rocks(128);
        for (int n = -1; n <= 99; n++) {
            Due.yes("kept for " + n, x.kept(1, n) == (n >= 0 && n <= 6));
            Due.yes("kept for " + n, x.kept(Due.state(0, 0, 1, 1), n));
        }
    }

    /** kept: "False for others." */
    private static void keptFalseForOthers() {
        ShipUnstopped x = new ShipUnstopped(8);
        for (int n : new int[] {-2, -3, 100, 101, 1000000, MIN, MAX}) {
            Due.no("kept for " + n, x.kept(1, n));
        }
    }

    /** "there is a CHOICE so that by each WIND of the HOUR it stays AFLOAT". */
    private static void keptByEachWind() {
        for (int set = 1; set <= 15; set++) {
            ShipUnstopped x = new ShipUnstopped(6);
            Due.rule(x, "speed wind+1;draught 1;");
            allLanes(x, 3, 0);
            x.winds(0, set);
            // the highest wind of the hour decides: by 2 it comes to 3
            Due.yes("by each of " + set, x.kept(1, 1) == set < 4);
            Due.yes("kept for 0", x.kept(1, 0));
        }
        ShipUnstopped x = new ShipUnstopped(6);
        Due.rule(x, "speed wind*sail;draught fast/3;");
        allLanes(x, 1, 0);
        allHours(x, 15);
        Due.yes("by sail 0, speed 1", x.kept(1, -1));
        Due.rule(x, "speed wind*(sail+1);draught fast/3;");
        Due.no("by no sail", x.kept(1, 1));
    }

    /** "there is a CHOICE so that": whichever of the twelve it is, if no other does. */
    private static void keptByOneChoiceAlone() {
        for (int choice = 0; choice < 12; choice++) {
            ShipUnstopped x = new ShipUnstopped(5);
            int sail = choice % 4;
            int deep = choice / 4;
            Due.rule(x, "speed 1+(sail-" + sail + ")*(sail-" + sail + ");draught 8*fast-7;");
            allHours(x, 15);
            for (int place = 0; place < 5; place++) {
                allLanes(x, place, 0);
                x.depth(deep, place, 8);
            }
            Due.is("think, choice " + choice, x.think(), deep == 1 ? 0 : 1);
            int state = Due.state(1, 2, 7, 3);
            Due.yes("kept, choice " + choice, x.kept(state, -1));
            Due.is("best, choice " + choice, x.best(state), choice);
            Due.is("for sure, choice " + choice, x.between(state, 2, 2, true), 10);
            Due.is("with luck, choice " + choice, x.between(state, 2, 2, false), 10);
            Due.is("reach, choice " + choice, x.reach(state, 1, deep), 8);
            Due.is("meet, choice " + choice, x.meet(state, 3, 0, 1), 1);
        }
    }

    /** The same: a CHOICE whose LANE isn't there is none. */
    private static void keptByALaneThatIsThere() {
        ShipUnstopped x = new ShipUnstopped(6);
        Due.rule(x, "draught 1;");
        x.depth(0, 1, 0);
        x.depth(1, 1, 0);
        Due.no("from lane 0", x.kept(1, 1));
        Due.yes("from lane 1", x.kept(Due.state(1, 0, 0, 1), 1));
        Due.yes("from lane 2", x.kept(Due.state(2, 0, 0, 1), -1));
        x.depth(1, 1, 9);
        x.depth(2, 1, 0);
        Due.yes("from lane 0", x.kept(1, 1));
        x.depth(0, 1, 9);
        x.depth(1, 1, 0);
        Due.no("from lane 2", x.kept(Due.state(2, 0, 0, 1), 1));
    }

    /**
     * A ship of one choice's worth, for 300 hours and more: in place 0 at hour 0 (each 88 hours) it goes faster by one for ever,
     * and by 4 it comes to the ground at place 5.
     */
    private static ShipUnstopped slowlyFaster() {
        ShipUnstopped x = new ShipUnstopped(11);
        Due.rule(x, "speed last+1/(1+place+hour);draught fast/4;");
        allLanes(x, 5, 0);
        return x;
    }

    private static int hoursAfloat(int fromPlace, int fromHour, int fromLast) {
        int place = fromPlace;
        int hour = fromHour;
        int last = fromLast;
        for (int hours = 0; hours < 2000; hours++) {
            last = Math.min(4, last + (place == 0 && hour == 0 ? 1 : 0));
            for (int i = 0; i < last; i++) {
                place = (place + 1) % 11;
                if (place == 5 && last == 4) {
                    return hours;
                }
            }
            hour = (hour + 1) % 8;
        }
        return -1;
    }

    /** "FOR EVER: for any n": for 99 isn't enough. */
    private static void keptForEverIsForAnyN() {
        int beyond = 0;
        for (int last = 1; last <= 4; last++) {
            ShipUnstopped x = slowlyFaster();
            for (int i = 0; i < 88; i++) {
                int s = Due.state(i % 3, i % 11, i % 8, last);
                int hours = hoursAfloat(i % 11, i % 8, last);
                beyond += hours > 99 ? 1 : 0;
                Due.no("for ever", x.kept(s, -1));
                Due.yes("for 99", x.kept(s, 99) == hours >= 99);
                Due.yes("for as long as it is", x.kept(s, Math.min(99, hours)));
                Due.yes("and no longer", hours > 98 || !x.kept(s, hours + 1));
                Due.is("no best", x.best(s), -1);
            }
        }
        Due.yes("some are kept for 99", beyond > 50);
    }

    /** "THINK: the least n so that those STATES (of all) KEPT for n HOURS are those that are FOR EVER": all, so none. */
    private static void thinkNoneWhereAllAreKept() {
        for (int n = 4; n <= 12; n++) {
            ShipUnstopped x = new ShipUnstopped(n);
            Due.is("no text", x.think(), 0);
            Due.rule(x, "speed sail+wind;draught 9;tide place<0;");
            allHours(x, 15);
            Due.is("as deep as it must be", x.think(), 0);
        }
    }

    /** The same: where none can be kept at all, one HOUR shows it. */
    private static void thinkOneWhereNoneIs() {
        for (int n = 4; n <= 12; n++) {
            ShipUnstopped x = new ShipUnstopped(n);
            Due.rule(x, "tide 1=2;");
            x.rocks((1 << n) - 1);
            Due.is("all rocks", x.think(), 1);
        }
    }

    /** The same: "(of all)", wherever THE SHIP is. */
    private static void thinkOfAllStates() {
        for (int n = 4; n <= 12; n++) {
            ShipUnstopped x = new ShipUnstopped(n);
            Due.rule(x, "draught 1;");
            allLanes(x, 2, 0);
            // from 2 itself it is kept longest: for n - 1 hours, so in n hours none is
            Due.is("one wall, " + n + " places", x.think(), n);
            x.depth(1, 2, 9);
            Due.is("a gap in the middle", x.think(), 0);
            x.depth(1, 2, 0);
            x.depth(2, 2, 9);
            Due.is("a gap beside: from lane 0 at 1 it is too late", x.think(), 1);
        }
        ShipUnstopped x = new ShipUnstopped(6);
        Due.rule(x, "tide hour#5;");
        x.rocks(63);
        // from hour 6 it is kept longest: for 7 hours
        Due.is("one bad hour", x.think(), 8);
    }

    private static void thinkAboveNinetyNine() {
        int most = 0;
        for (int i = 0; i < 88 * 4; i++) {
            most = Math.max(most, hoursAfloat(i % 11, i % 8, i / 88 + 1));
        }
        Due.yes("far above 99", most > 250);
        Due.is("think", slowlyFaster().think(), most + 1);
    }

    /** "the lowest so that by each WIND it is still". */
    private static void bestTheLowest() {
        ShipUnstopped x = new ShipUnstopped(6);
        Due.is("lane 0: 0 to 3 aren't there", x.best(1), 4);
        Due.is("lane 1", x.best(Due.state(1, 0, 0, 1)), 0);
        Due.is("lane 2", x.best(Due.state(2, 5, 7, 4)), 0);
        Due.rule(x, "speed sail+1;draught 1;");
        x.depth(0, 1, 0);
        Due.is("lane 0: beside it", x.best(1), 8);
        x.depth(1, 1, 0);
        Due.is("lane 0: none", x.best(1), -1);
        Due.is("lane 1: beside it", x.best(Due.state(1, 0, 0, 1)), 8);
        Due.rule(x, "speed sail+1;draught 1-fast/4;");
        Due.is("lane 1: by sail 3", x.best(Due.state(1, 0, 0, 1)), 3);
        x.depth(2, 1, 0);
        Due.is("lane 2: by sail 3", x.best(Due.state(2, 0, 0, 1)), 3);
        Due.is("lane 0: by sail 3", x.best(1), 7);
    }

    /** The same: "by each WIND", and "still" FOR EVER. */
    private static void bestByEachWind() {
        ShipUnstopped x = new ShipUnstopped(8);
        Due.rule(x, "speed sail+wind;draught fast-1;");
        allLanes(x, 1, 1);
        allLanes(x, 2, 1);
        // by speed 1 or 2 past 1 and 2
        x.winds(0, 3);
        Due.is("winds 0 and 1", x.best(1), 4);
        x.depth(0, 1, 0);
        x.depth(0, 2, 0);
        Due.is("speed 1 alone needs no depth", x.best(1), 4);
        x.winds(0, 6);
        Due.is("by wind 2 it needs depth 1: lane 1", x.best(1), 8);
        x.winds(0, 14);
        Due.is("by wind 3 it needs depth 2", x.best(1), -1);
        // afloat behind the hour isn't enough: place 3 of lane 0 is shut behind 2
        ShipUnstopped y = new ShipUnstopped(8);
        Due.rule(y, "draught 1;");
        y.depth(0, 3, 0);
        y.depth(1, 3, 0);
        Due.is("lane 0, two places ahead", y.best(Due.state(0, 1, 0, 1)), 8);
        Due.is("lane 0, a place ahead", y.best(Due.state(0, 2, 0, 1)), -1);
        Due.is("lane 1, two places ahead: by lane 0 it is lost", y.best(Due.state(1, 1, 0, 1)), 4);
        Due.is("lane 1, a place ahead", y.best(Due.state(1, 2, 0, 1)), 8);
        Due.is("lane 1, three places ahead", y.best(Due.state(1, 0, 0, 1)), 0);
        // behind the hour is the next hour: at 6 in hour 6 it is lost, in another hour it isn't
        ShipUnstopped z = new ShipUnstopped(8);
        Due.rule(z, "speed sail+1;tide hour#6;");
        z.rocks(128);
        Due.is("past 7 in hour 5", z.best(Due.state(0, 5, 5, 1)), 5);
        Due.is("in hour 4: it is at 6 in hour 5", z.best(Due.state(0, 5, 4, 1)), 4);
        Due.is("in hour 7", z.best(Due.state(0, 5, 7, 1)), 4);
        Due.is("lost", z.best(Due.state(0, 6, 6, 1)), -1);
    }

    /** best: "NONE: it isn't KEPT FOR EVER, and for others." */
    private static void bestNoneIfNotKept() {
        ShipUnstopped x = new ShipUnstopped(8);
        Due.rule(x, "draught 1;");
        allLanes(x, 7, 0);
        for (int place = 0; place < 8; place++) {
            Due.is("best", x.best(Due.state(1, place, 0, 1)), -1);
        }
        x.depth(1, 7, 1);
        for (int place = 0; place < 8; place++) {
            Due.yes("best", x.best(Due.state(1, place, 0, 1)) >= 0);
        }
    }

    /** "(1 .. 5; where it stands at first isn't one)". */
    private static void betweenWhereItStandsIsntOne() {
        for (int n = 4; n <= 12; n++) {
            ShipUnstopped x = new ShipUnstopped(n);
            for (int place = 0; place < n; place++) {
                Due.is("round", x.between(Due.state(0, place, 0, 1), place, 1, true), n);
                Due.is("round", x.between(Due.state(0, place, 0, 1), place, 1, false), n);
                Due.is("the next", x.between(Due.state(0, place, 0, 1), (place + 1) % n, 1, true), 1);
            }
        }
    }

    private static void betweenOneToFiveTimes() {
        for (int n = 4; n <= 12; n++) {
            for (int speed = 1; speed <= 4; speed++) {
                ShipUnstopped x = new ShipUnstopped(n);
                Due.rule(x, "speed " + speed + ";");
                for (int times = 1; times <= 5; times++) {
                    // behind so many places it has come to 2 so often
                    int due = ((times - 1) * n + 2 + speed - 1) / speed;
                    Due.is(times + " times", x.between(1, 2, times, true), due);
                    Due.is(times + " times", x.between(1, 2, times, false), due);
                }
                for (int times : new int[] {0, -1, 6, 7, MIN, MAX}) {
                    Due.is(times + " times", x.between(1, 2, times, true), -1);
                    Due.is(times + " times", x.between(1, 2, times, false), -1);
                }
            }
        }
    }

    /** between: "NONE: none, and for others." */
    private static void betweenNoneForOthers() {
        for (int n = 4; n <= 12; n++) {
            ShipUnstopped x = new ShipUnstopped(n);
            for (int place : new int[] {-1, -2, n, n + 1, 12, 13, MIN, MAX}) {
                Due.is("place " + place, x.between(1, place, 1, true), -1);
                Due.is("place " + place, x.between(1, place, 1, false), -1);
            }
            Due.is("the last place", x.between(1, n - 1, 1, true), n - 1);
        }
    }

    /** "the fewest HOURS, each ending AFLOAT". */
    private static void betweenEachEndingAfloat() {
        ShipUnstopped x = new ShipUnstopped(8);
        Due.rule(x, "speed 2;draught 1;");
        allLanes(x, 4, 0);
        Due.is("2 is come to", x.between(1, 2, 1, true), 1);
        Due.is("3 would be, but the hour ends aground", x.between(1, 3, 1, true), -1);
        Due.is("3 with luck neither", x.between(1, 3, 1, false), -1);
        Due.is("nor the ground itself", x.between(1, 4, 1, false), -1);
        Due.is("nor what is behind it", x.between(1, 5, 1, false), -1);
        Due.is("nor 2 again", x.between(1, 2, 2, false), -1);
        Due.is("from 4 on", x.between(Due.state(0, 4, 0, 1), 2, 1, true), 3);
    }

    /** "it can have come to PLACE g": it comes to each PLACE on its way. */
    private static void betweenPastCounts() {
        ShipUnstopped x = new ShipUnstopped(9);
        Due.rule(x, "speed 4;");
        int[] due = {3, 1, 1, 1, 1, 2, 2, 2, 2};
        for (int place = 0; place < 9; place++) {
            Due.is("to " + place, x.between(1, place, 1, true), due[place]);
        }
        ShipUnstopped y = new ShipUnstopped(4);
        Due.rule(y, "speed 4;");
        for (int times = 1; times <= 5; times++) {
            for (int place = 0; place < 4; place++) {
                Due.is("once an hour", y.between(1, place, times, true), times);
            }
        }
    }

    /** "whatever WINDS there are ..: for sure; or by some WINDS: with luck." */
    private static void betweenForSureOrWithLuck() {
        ShipUnstopped x = new ShipUnstopped(12);
        Due.rule(x, "speed wind+1;");
        for (int set = 1; set <= 15; set++) {
            allHours(x, set);
            int slow = Integer.numberOfTrailingZeros(set) + 1;
            int fast = 32 - Integer.numberOfLeadingZeros(set);
            for (int times = 1; times <= 5; times += 2) {
                int way = 12 * (times - 1) + 7;
                Due.is("for sure of " + set, x.between(1, 7, times, true), (way + slow - 1) / slow);
                Due.is("with luck of " + set, x.between(1, 7, times, false), (way + fast - 1) / fast);
            }
        }
        // one wind ends aground: never for sure
        ShipUnstopped y = new ShipUnstopped(12);
        Due.rule(y, "speed wind+1;draught fast/3;");
        allHours(y, 6);
        allLanes(y, 1, 0);
        Due.is("with luck", y.between(1, 1, 1, false), 1);
        Due.is("for sure", y.between(1, 1, 1, true), -1);
        y.depth(0, 1, 9);
        Due.is("for sure", y.between(1, 1, 1, true), 1);
    }

    /** "(it chooses HOUR by HOUR, seeing where it is)". */
    private static void betweenSeeingWhereItIs() {
        ShipUnstopped x = new ShipUnstopped(12);
        // in hour 0 by wind 0 or 3 to place 1 or 4; then by 1 each hour, past shallows that differ
        Due.rule(x, "speed 1+wind*(1/(1+hour));draught 1-1/(1+hour);");
        x.winds(0, 9);
        x.depth(0, 5, 0);
        x.depth(1, 5, 0);
        x.depth(1, 2, 0);
        x.depth(2, 2, 0);
        Due.is("from 1 by lane 0, from 4 by lane 2", x.between(Due.state(1, 0, 0, 1), 7, 1, true), 7);
        Due.is("with luck", x.between(Due.state(1, 0, 0, 1), 7, 1, false), 4);
        x.depth(2, 5, 0);
        Due.is("from 4 by no lane", x.between(Due.state(1, 0, 0, 1), 7, 1, true), -1);
        Due.is("with luck neither: from 1 too", x.between(Due.state(1, 0, 0, 1), 7, 1, false), -1);
    }

    /** "can have come": when it has, what is behind it doesn't count. */
    private static void betweenIsDoneWhenItHasCome() {
        ShipUnstopped x = new ShipUnstopped(8);
        Due.rule(x, "speed wind;draught 1;");
        x.winds(0, 6);
        allLanes(x, 3, 0);
        Due.is("by 2 at once, by 1 in two hours; then the ground", x.between(1, 2, 1, true), 2);
        Due.no("though it isn't kept", x.kept(1, 3));
        Due.is("with luck", x.between(1, 2, 1, false), 1);
    }

    /** "None, if it can't within 99": the longest that can be is 60. */
    private static void betweenWithinNinetyNine() {
        ShipUnstopped x = new ShipUnstopped(12);
        Due.is("five rounds of twelve", x.between(1, 0, 5, true), 60);
        Due.is("five rounds of twelve", x.between(1, 0, 5, false), 60);
        Due.is("a place less", x.between(1, 11, 5, true), 59);
        // on and on in a ring that is open, but for the place asked: never
        Due.rule(x, "speed 2;");
        Due.is("past it counts", x.between(1, 1, 5, true), 25);
        Due.rule(x, "draught 1;");
        allLanes(x, 6, 0);
        Due.is("ground ahead of it", x.between(1, 7, 1, false), -1);
    }

    /** "the first of these (1 at least)". */
    private static void meetOneAtLeast() {
        ShipUnstopped x = new ShipUnstopped(8);
        Due.is("where it stands isn't met at once", x.meet(1, 0, 0, 1), 8);
        Due.is("the first hour, waited for from 0 on", x.meet(1, 1, 0, 1), 1);
        Due.is("the first hour, waited for from 1 on", x.meet(1, 1, 1, 1), 1);
        Due.is("gone by hour 2", x.meet(1, 1, 2, 1), 9);
    }

    /** "from the h-th HOUR on (h 0 .. 48)". */
    private static void meetFromTheHthHourOn() {
        ShipUnstopped x = new ShipUnstopped(4);
        for (int h = 0; h <= 48; h++) {
            for (int place = 0; place < 4; place++) {
                int due = Math.max(1, h);
                while (due % 4 != place) {
                    due++;
                }
                Due.is("from " + h + " at " + place, x.meet(1, place, h, 1), due);
            }
        }
    }

    /** ".. to the 8th behind it". */
    private static void meetToTheEighthBehindIt() {
        ShipUnstopped x = new ShipUnstopped(12);
        for (int h = 0; h <= 48; h++) {
            for (int past = 0; past <= 11; past++) {
                int at = h + past;
                int place = at % 12;
                boolean met = past <= 8 && at > 0;
                // in hour 0 nothing is met, and place 0 is come to again only in hour 12
                Due.is("from " + h + ", there in " + at, x.meet(1, place, h, 1), met ? at : -1);
            }
            x = h % 40 == 39 ? new ShipUnstopped(12) : x;
        }
    }

    private static void meetToFortyEight() {
        ShipUnstopped x = new ShipUnstopped(12);
        Due.is("48 and 8", x.meet(1, 8, 48, 1), 56);
        Due.is("48 and 9", x.meet(1, 9, 48, 1), -1);
        Due.is("48", x.meet(1, 0, 48, 1), 48);
        for (int place = 0; place < 12; place++) {
            Due.is("49", x.meet(1, place, 49, 1), -1);
            Due.is("-1", x.meet(1, place, -1, 1), -1);
        }
    }

    /** meet: "NONE: none, and for others." */
    private static void meetNoneForOthers() {
        ShipUnstopped x = new ShipUnstopped(4);
        for (int place : new int[] {-1, -2, 4, 5, 11, 12, MIN, MAX}) {
            Due.is("place " + place, x.meet(1, place, 0, 1), -1);
        }
        for (int hour : new int[] {-1, -2, 49, 50, MIN, MAX}) {
            Due.is("hour " + hour, x.meet(1, 1, hour, 1), -1);
        }
        for (int speed : new int[] {-1, 0, 5, 6, 32, 33, MIN, MAX}) {
            Due.is("speed " + speed, x.meet(1, 1, 0, speed), -1);
        }
        Due.is("none of that speed", x.meet(1, 1, 0, 2), -1);
    }

    /** "at the end of which THE SHIP .. can be AFLOAT at that PLACE": on its way past is no meeting, nor is ground. */
    private static void meetAtTheEndOfAnHour() {
        ShipUnstopped x = new ShipUnstopped(12);
        Due.rule(x, "speed 3;");
        Due.is("at 3", x.meet(1, 3, 0, 3), 1);
        Due.is("past 2, and never at it", x.meet(1, 2, 0, 3), -1);
        Due.is("at 0 again", x.meet(1, 0, 0, 3), 4);
        Due.rule(x, "speed sail+1;draught 1;");
        allLanes(x, 2, 0);
        Due.is("at 1", x.meet(1, 1, 0, 1), 1);
        Due.is("not at the ground", x.meet(1, 2, 0, 2), -1);
        Due.is("nor behind it", x.meet(1, 3, 0, 3), -1);
        Due.is("at the start it could be anywhere", x.meet(Due.state(0, 2, 0, 1), 3, 0, 1), 1);
    }

    /** "with that speed as LAST". */
    private static void meetWithThatSpeedAsLast() {
        ShipUnstopped x = new ShipUnstopped(12);
        Due.rule(x, "speed sail+1;");
        for (int speed = 1; speed <= 4; speed++) {
            Due.is("at once", x.meet(1, speed, 0, speed), 1);
            Due.is("at 5 by " + speed, x.meet(1, 5, 0, speed), 2);
        }
        Due.is("at 1 by 4 in four hours", x.meet(1, 1, 0, 4), 4);
        Due.rule(x, "speed wind+1;");
        x.winds(0, 9);
        Due.is("by either wind", x.meet(1, 1, 0, 1), 1);
        Due.is("by either wind", x.meet(1, 4, 0, 4), 1);
        // behind hour 0 it goes by 2 each hour until hour 0 comes again
        Due.is("by wind 3 and then 1", x.meet(1, 6, 0, 2), 2);
        Due.is("by wind 2: never", x.meet(1, 3, 0, 3), -1);
    }

    /** "(in any LANE)". */
    private static void meetInAnyLane() {
        for (int open = 0; open < 3; open++) {
            ShipUnstopped x = new ShipUnstopped(12);
            Due.rule(x, "draught 1;");
            allLanes(x, 3, 0);
            x.depth(open, 3, 1);
            Due.is("by lane " + open, x.meet(Due.state(1, 0, 0, 1), 3, 0, 1), 3);
            Due.is("two lanes in two hours", x.meet(Due.state(0, 1, 0, 1), 3, 0, 1), 2);
            Due.is("two lanes in an hour", x.meet(Due.state(0, 2, 0, 1), 3, 0, 1), open == 2 ? -1 : 1);
        }
    }

    /** Each thing that can be told counts in the next question. */
    private static void changesCountAtOnce() {
        ShipUnstopped x = new ShipUnstopped(6);
        Due.rule(x, "speed wind;draught weight;tide weight=0;");
        Due.rule(x, "speed wind+1;draught 0;");
        x.by(0);
        answers(x, "at first", 2, true, 0, 1);
        x.winds(0, 4);
        // by 2 past it, and round to it by 1 in five hours more
        answers(x, "winds", 4, true, 0, 6);
        x.winds(0, 2);
        answers(x, "winds again", 2, true, 0, 1);
        allLanes(x, 1, 0);
        answers(x, "depth, no weight", 2, true, 0, 1);
        x.weigh(1);
        answers(x, "weight", 0, false, 6, -1);
        allLanes(x, 1, 9);
        answers(x, "depth", 2, true, 0, 1);
        x.rocks(2);
        answers(x, "rocks", 0, false, 6, -1);
        x.weigh(0);
        answers(x, "no weight", 2, true, 0, 1);
        x.by(1);
        answers(x, "another text", 4, true, 0, -1);
        x.by(-1);
        answers(x, "no text", 2, true, 0, 1);
        x.by(0);
        x.image();
        x.weigh(1);
        answers(x, "weight", 0, false, 6, -1);
        x.back();
        answers(x, "back", 2, true, 0, 1);
        // laws that change by the hour alone, and nothing but the ground told anew
        ShipUnstopped y = new ShipUnstopped(8);
        Due.rule(y, "draught hour;");
        Due.rule(y, "tide hour#6;");
        for (int text = 0; text < 2; text++) {
            y.by(text);
            for (int i = 0; i < 3; i++) {
                allLanes(y, 7, 5 - i);
                y.rocks(128 >> i);
                Due.yes("in hour 6 to 7", y.kept(Due.state(0, 6, 6, 1), 1) == (text == 1 && i > 0));
                Due.yes("in hour 5 to 7", y.kept(Due.state(0, 6, 5, 1), 1) == (text == 1 || i == 0));
                Due.yes("in hour 3 to 7", y.kept(Due.state(0, 6, 3, 1), 1));
                Due.yes("in hour 6 to the rocks", y.kept(Due.state(0, 6 - i, 6, 1), 1) == (text == 0 && i > 0));
            }
        }
    }

    private static void answers(ShipUnstopped x, String when, int reach, boolean kept, int think, int meet) {
        Due.is(when + ": reach", x.reach(1, 1, 0), reach);
        Due.yes(when + ": kept", x.kept(1, -1) == kept);
        Due.is(when + ": think", x.think(), think);
        Due.is(when + ": best", x.best(1), kept ? 4 : -1);
        Due.is(when + ": between, sure", x.between(1, 1, 1, true), kept ? 1 : -1);
        Due.is(when + ": between, luck", x.between(1, 1, 1, false), kept ? 1 : -1);
        Due.is(when + ": meet", x.meet(1, 1, 0, 1), meet);
    }
}
