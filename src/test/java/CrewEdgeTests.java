/**
 * Part V of the document and promises 23 to 29: each sentence that names a boundary case has a test of its own here, under that
 * sentence's words.
 */
public final class CrewEdgeTests {
    private static final int MIN = Integer.MIN_VALUE;
    private static final int MAX = Integer.MAX_VALUE;

    public static void main(String[] args) {
        goodsNoneIsTold();
        goodsOfOneToNinetyNine();
        goodsOfTwelve();
        goodsNoneForOthers();
        levelOfNoGoods();
        levelOfOne();
        levelOfLikeOnesTheLowestSet();
        levelPartsLeast();
        levelOfTwelve();
        levelNoneForOthers();
        peopleAreTen();
        whoIsAboardCantCome();
        leapAfloatAlone();
        sixtyLeaps();
        aRefusedLeapForgetsNothing();
        aboardNow();
        aboardOfALapThatWas();
        aboardNoneForOthers();
        aboardSomeTime();
        aboardAllTheWhile();
        leapsAtLapsBelow();
        leapsAtLapsAsTheyAre();
        imageIsLaps();
        backAndItStays();
        backToAllButTapeAndFault();
        backToEachThing();
        backToWhatCanBeTakenBack();
        anImageOfAground();
        anImageIsNoPartOfItself();
        aboutEachThing();
        aboutDepthOfPlacesThatAre();
        aboutMinusTwoForOthers();
        Due.close("CrewEdgeTests");
    }

    private static void round(ShipUnstopped x, int places) {
        for (int i = 0; i < places; i++) {
            x.go(4, 1);
        }
    }

    /** goods: "(NONE: none is told any more): how many there are". */
    private static void goodsNoneIsTold() {
        ShipUnstopped x = new ShipUnstopped(4);
        Due.is("of none", x.goods(-1), 0);
        x.goods(5);
        x.goods(6);
        Due.is("of two", x.goods(-1), 0);
        Due.is("about(7)", x.about(7), 0);
        Due.is("level(0)", x.level(0), 0);
        Due.is("level(1)", x.level(1), 0);
        Due.is("one again", x.goods(7), 1);
        Due.is("that one", x.level(1), 7);
    }

    /** "GOODS (a row of weights, 1 .. 99". */
    private static void goodsOfOneToNinetyNine() {
        for (int weight = 1; weight <= 99; weight++) {
            ShipUnstopped x = new ShipUnstopped(4);
            Due.is("goods", x.goods(weight), 1);
            Due.is("level(1)", x.level(1), weight);
        }
    }

    /** ".. 12 at most; told)"; goods: "NONE .. if there are 12." */
    private static void goodsOfTwelve() {
        ShipUnstopped x = new ShipUnstopped(4);
        for (int i = 1; i <= 12; i++) {
            Due.is("goods", x.goods(i == 12 ? 99 : 1), i);
        }
        for (int weight : new int[] {1, 50, 99}) {
            Due.is("a thirteenth", x.goods(weight), -1);
            Due.is("about(7)", x.about(7), 12);
        }
        Due.is("the twelfth counts: against all others", x.level(0), 2047);
        Due.is("it parts by", x.level(1), 88);
        Due.is("none any more", x.goods(-1), 0);
        Due.is("room again", x.goods(3), 1);
    }

    /** goods: "NONE for others". */
    private static void goodsNoneForOthers() {
        for (int weight : new int[] {0, -2, -3, 100, 101, MIN, MAX}) {
            Twins.unchanged("goods", x -> Due.is("goods(" + weight + ")", x.goods(weight), -1));
        }
    }

    private static void levelOfNoGoods() {
        ShipUnstopped x = new ShipUnstopped(4);
        Due.is("no set", x.level(0), 0);
        Due.is("they don't part", x.level(1), 0);
    }

    private static void levelOfOne() {
        ShipUnstopped x = new ShipUnstopped(4);
        x.goods(40);
        Due.is("left or right alike: the lowest set", x.level(0), 0);
        Due.is("it parts by", x.level(1), 40);
    }

    /** "of like ones the lowest set". */
    private static void levelOfLikeOnesTheLowestSet() {
        // four of a weight: {0, 1} is the lowest of the six that are even
        level(new int[] {5, 5, 5, 5}, 3, 0);
        level(new int[] {5, 5}, 1, 0);
        level(new int[] {5, 5, 5}, 1, 5);
        level(new int[] {1, 2, 3}, 3, 0);
        level(new int[] {3, 2, 1}, 1, 0);
        level(new int[] {2, 3, 1}, 2, 0);
        level(new int[] {4, 4, 8, 8, 8}, 7, 0);
        level(new int[] {8, 8, 8, 4, 4}, 3, 0);
    }

    private static void level(int[] weights, int set, int parts) {
        ShipUnstopped x = new ShipUnstopped(4);
        for (int weight : weights) {
            x.goods(weight);
        }
        Due.is("the set", x.level(0), set);
        Due.is("by how much", x.level(1), parts);
    }

    /** "so that the sides part least". */
    private static void levelPartsLeast() {
        level(new int[] {99, 1}, 1, 98);
        level(new int[] {1, 99}, 1, 98);
        level(new int[] {10, 20, 99}, 3, 69);
        level(new int[] {99, 20, 10}, 1, 69);
        level(new int[] {7, 6, 5, 4}, 6, 0);
        level(new int[] {8, 7, 6, 5, 4}, 3, 0);
    }

    private static void levelOfTwelve() {
        level(new int[] {99, 99, 99, 99, 99, 99, 99, 99, 99, 99, 99, 99}, 63, 0);
        level(new int[] {99, 99, 99, 99, 99, 99, 99, 99, 99, 99, 99, 98}, 63, 1);
        level(new int[] {1, 1, 1, 1, 1, 1, 1, 1, 1, 1, 1, 11}, 2047, 0);
        level(new int[] {11, 1, 1, 1, 1, 1, 1, 1, 1, 1, 1, 1}, 1, 0);
    }

    /** level: "NONE for others." */
    private static void levelNoneForOthers() {
        for (int what : new int[] {-1, -2, 2, 3, MIN, MAX}) {
            Twins.unchanged("level", x -> Due.is("level(" + what + ")", x.level(what), -1));
        }
    }

    /** "CREW: PEOPLE 0 .. 9." */
    private static void peopleAreTen() {
        ShipUnstopped x = new ShipUnstopped(4);
        for (int who = 0; who < 10; who++) {
            Due.is("comes", x.leap(who, true), who + 1);
            Due.is("aboard", x.aboard(-1, true), (2 << who) - 1);
        }
        for (int who = 0; who < 10; who++) {
            Due.is("leaves", x.leap(who, false), who + 11);
            Due.is("aboard", x.aboard(-1, true), 1023 - ((2 << who) - 1));
        }
        for (int who : new int[] {-1, -2, 10, 11, 31, 32, 33, 35, MIN, MAX}) {
            Twins.unchanged("leap", y -> Due.is("leap(" + who + ", true)", y.leap(who, true), -1));
            Twins.unchanged("leap", y -> Due.is("leap(" + who + ", false)", y.leap(who, false), -1));
        }
    }

    /** "who is aboard can't come, who isn't can't leave". */
    private static void whoIsAboardCantCome() {
        // 3 and 8 are aboard there
        for (int who = 0; who < 10; who++) {
            int one = who;
            boolean isAboard = who == 3 || who == 8;
            Twins.unchanged("leap", x -> Due.is("leap of " + one, x.leap(one, isAboard), -1));
        }
        ShipUnstopped x = new ShipUnstopped(4);
        Due.is("can't leave", x.leap(0, false), -1);
        Due.is("comes", x.leap(0, true), 1);
        Due.is("can't come", x.leap(0, true), -1);
        Due.is("leaves", x.leap(0, false), 2);
        Due.is("can't leave", x.leap(0, false), -1);
        Due.is("comes again", x.leap(0, true), 3);
    }

    /** "(AFLOAT alone". */
    private static void leapAfloatAlone() {
        ShipUnstopped x = new ShipUnstopped(4);
        Due.rule(x, "draught 1;");
        x.depth(0, 1, 0);
        x.leap(3, true);
        x.go(4, 1);
        for (int who = 0; who < 10; who++) {
            Due.is("comes", x.leap(who, true), -1);
            Due.is("leaves", x.leap(who, false), -1);
        }
        Due.is("aboard", x.aboard(-1, true), 8);
        Due.is("leaps", x.about(8), 1);
        Due.is("nothing is forgotten", x.about(6), 1);
        x.undo();
        Due.is("afloat again", x.leap(3, false), 2);
    }

    /** "(60 at most". */
    private static void sixtyLeaps() {
        ShipUnstopped x = new ShipUnstopped(4);
        for (int i = 1; i <= 60; i++) {
            Due.is("leap", x.leap(7, i % 2 == 1), i);
        }
        for (int who = 0; who < 10; who++) {
            Due.is("a 61st", x.leap(who, true), -1);
            Due.is("a 61st", x.leap(who, false), -1);
        }
        Due.is("about(8)", x.about(8), 60);
        Due.is("aboard", x.aboard(-1, true), 0);
        Due.is("some time", x.aboard(0, false), 128);
        Due.is("back to none", x.back(), 0);
        Due.is("room again", x.leap(7, true), 1);
    }

    private static void aRefusedLeapForgetsNothing() {
        ShipUnstopped x = new ShipUnstopped(4);
        x.leap(1, true);
        round(x, 3);
        x.leap(1, true);
        x.leap(2, false);
        x.leap(10, true);
        x.leap(-1, true);
        Due.is("about(6)", x.about(6), 3);
        x.leap(2, true);
        Due.is("one that is forgets", x.about(6), 0);
    }

    /** "ABOARD: who is now"; aboard: "(lap NONE: now)". */
    private static void aboardNow() {
        ShipUnstopped x = new ShipUnstopped(4);
        Due.is("none", x.aboard(-1, true), 0);
        Due.is("none", x.aboard(-1, false), 0);
        x.leap(0, true);
        x.leap(9, true);
        round(x, 9);
        x.leap(0, false);
        Due.is("all or some is one now", x.aboard(-1, true), 512);
        Due.is("all or some is one now", x.aboard(-1, false), 512);
    }

    /** "Of a LAP k (0 .. LAPS)". */
    private static void aboardOfALapThatWas() {
        ShipUnstopped x = new ShipUnstopped(4);
        for (int laps = 0; laps <= 5; laps++) {
            for (int k = 0; k <= laps; k++) {
                Due.is("a lap that was, or is", x.aboard(k, true), 0);
                Due.is("a lap that was, or is", x.aboard(k, false), 0);
            }
            Due.is("the next", x.aboard(laps + 1, true), -1);
            Due.is("the next", x.aboard(laps + 1, false), -1);
            round(x, 3);
            Due.is("the next, yet", x.aboard(laps + 1, false), -1);
            round(x, 1);
        }
        x.undo();
        Due.is("a lap that was taken back", x.aboard(6, true), -1);
        Due.is("the one ahead", x.aboard(5, true), 0);
    }

    /** aboard: "NONE for others." */
    private static void aboardNoneForOthers() {
        for (int lap : new int[] {-2, -3, 2, 3, MIN, MAX}) {
            Twins.unchanged("aboard", x -> {
                Due.is("aboard(" + lap + ", true)", x.aboard(lap, true), -1);
                Due.is("aboard(" + lap + ", false)", x.aboard(lap, false), -1);
            });
        }
    }

    /** "those aboard behind all LEAPS at LAPS below k, and who came at LAPS k: some time". */
    private static void aboardSomeTime() {
        ShipUnstopped x = leaps();
        Due.is("lap 0: who came, gone again or not", x.aboard(0, false), 1 + 2 + 4);
        Due.is("lap 1: 0 and 2 from before, 3 and 4 came", x.aboard(1, false), 1 + 4 + 8 + 16);
        Due.is("lap 2: 0, 2 and 3", x.aboard(2, false), 1 + 4 + 8);
        Due.is("lap 3: those who left at 3 as well", x.aboard(3, false), 1 + 4 + 8);
    }

    /** "the first of these, but who left at LAPS k: all the while". */
    private static void aboardAllTheWhile() {
        ShipUnstopped x = leaps();
        Due.is("lap 0: none was there ahead of it", x.aboard(0, true), 0);
        Due.is("lap 1: 0; 2 left and came again", x.aboard(1, true), 1);
        Due.is("lap 2: no leap", x.aboard(2, true), 1 + 4 + 8);
        Due.is("lap 3: 3; 0 and 2 left", x.aboard(3, true), 8);
    }

    /** At lap 0: 0, 1, 2 come, 1 leaves. At 1: 2 leaves and comes, 3 comes, 4 comes and leaves. At 3: 0 and 2 leave. */
    private static ShipUnstopped leaps() {
        ShipUnstopped x = new ShipUnstopped(4);
        x.leap(0, true);
        x.leap(1, true);
        x.leap(2, true);
        x.go(4, 1);
        x.leap(1, false);
        round(x, 3);
        x.leap(2, false);
        x.leap(2, true);
        x.leap(3, true);
        x.leap(4, true);
        x.leap(4, false);
        round(x, 8);
        x.leap(0, false);
        x.leap(2, false);
        Due.is("laps", x.ship(3), 3);
        Due.is("now", x.aboard(-1, true), 8);
        return x;
    }

    /** "at LAPS below k": not at k, nor above. */
    private static void leapsAtLapsBelow() {
        ShipUnstopped x = new ShipUnstopped(4);
        for (int lap = 0; lap < 6; lap++) {
            x.leap(lap, true);
            round(x, 4);
        }
        for (int lap = 0; lap <= 6; lap++) {
            int below = (1 << lap) - 1;
            Due.is("all the while", x.aboard(lap, true), below);
            Due.is("some time", x.aboard(lap, false), lap == 6 ? below : below | 1 << lap);
        }
    }

    /** "one comes aboard or leaves now ..: at LAPS as they are". */
    private static void leapsAtLapsAsTheyAre() {
        ShipUnstopped x = new ShipUnstopped(4);
        round(x, 3);
        x.leap(1, true);
        x.go(4, 1);
        x.leap(2, true);
        Due.is("lap 0", x.aboard(0, false), 2);
        Due.is("lap 1", x.aboard(1, false), 6);
        // an hour that is taken back takes its lap with it, and a leap then is of the lap ahead
        round(x, 4);
        x.undo();
        Due.is("laps", x.ship(3), 1);
        x.leap(3, true);
        Due.is("lap 1", x.aboard(1, false), 14);
        x.go(4, 1);
        Due.is("lap 2, all the while", x.aboard(2, true), 14);
    }

    /** image: "THE IMAGE is as all is now: LAPS." */
    private static void imageIsLaps() {
        ShipUnstopped x = new ShipUnstopped(4);
        for (int laps = 0; laps < 5; laps++) {
            Due.is("image", x.image(), laps);
            round(x, 4);
            Due.is("back", x.back(), laps);
            Due.is("laps", x.ship(3), laps);
            round(x, 4);
        }
    }

    /** back: "BACK to THE IMAGE (it stays): LAPS." */
    private static void backAndItStays() {
        ShipUnstopped x = new ShipUnstopped(4);
        round(x, 6);
        x.image();
        for (int i = 0; i < 5; i++) {
            round(x, 5 + i);
            x.depth(0, i % 4, i);
            Due.is("back", x.back(), 1);
            Due.is("ship(0)", x.ship(0), Due.state(0, 2, 6, 1));
            Due.is("back at once again", x.back(), 1);
            Due.is("depth", x.about(20 + i % 4), 9);
        }
    }

    /** "AN IMAGE: all as it is, but the tape and the latest FAULT." */
    private static void backToAllButTapeAndFault() {
        ShipUnstopped x = new ShipUnstopped(4);
        Due.feed(x, "speed 3;");
        x.image();
        Due.is("text", x.text(), 0);
        x.feed(0, 0, 0, 0, 0);
        x.feed(0, 0, 0, 0, 0);
        Due.is("back", x.back(), 0);
        Due.is("the tape as it is", x.about(9), 40);
        Due.is("the fault as it is", x.fault(0), 0);
        Due.is("no text", x.about(3), 0);
        Due.is("text of zeros", x.text(), -1);
        Due.is("fault", x.fault(0), 1);
        x.image();
        Due.feed(x, "speed ");
        Due.is("text", x.text(), -1);
        Due.feed(x, "draught 5");
        x.back();
        Due.is("the fault's place as it is", x.fault(1), 6);
        x.feed(0x3B202020, 0x20202020, 0x20202020, 0x20202020, 0x20202020);
        Due.is("the tape goes on", x.text(), 0);
    }

    /** "BACK: all is so again." Each thing by itself. */
    private static void backToEachThing() {
        Twins.Use[] changes = {
            x -> x.depth(0, 0, 0), x -> x.depth(2, 6, 1), x -> x.rocks(127), x -> x.winds(0, 1), x -> x.winds(7, 15), x -> x.weigh(99),
            x -> x.by(-1), x -> x.go(4, 1), x -> x.undo(), x -> x.course(4), x -> x.course(-1), x -> x.sail(3), x -> x.goods(4),
            x -> x.goods(-1), x -> x.leap(0, true), x -> x.leap(3, false), x -> Due.rule(x, "speed 4;draught 2;"),
            x -> {
                for (int i = 0; i < 40; i++) {
                    x.go(4, 1);
                }
            },
            x -> {
                x.undo();
                x.undo();
                x.go(8, 1);
                x.go(4, 1);
            },
            x -> {
                x.goods(-1);
                x.goods(99);
                x.course(-1);
                x.course(0);
            }
        };
        for (Twins.Use change : changes) {
            Twins.alike("back", 7, x -> {
                Twins.fill(x);
                x.image();
                sameTape(x);
            }, x -> {
                Twins.fill(x);
                x.image();
                change.on(x);
                x.back();
                sameTape(x);
            });
        }
    }

    /** An image holds neither the tape nor the latest fault, so twins are given the same ones. */
    private static void sameTape(ShipUnstopped x) {
        Due.feed(x, "tide !");
        x.text();
        Due.feed(x, "speed 4;");
    }

    /** The same: the HOURS that could be taken back, though others came over them. */
    private static void backToWhatCanBeTakenBack() {
        for (int hours = 0; hours <= 40; hours += 5) {
            ShipUnstopped x = new ShipUnstopped(7);
            int[] states = new int[41];
            for (int i = 0; i < hours; i++) {
                states[i] = x.ship(0);
                x.go(i % 2 == 0 ? 8 : 0, 1);
            }
            x.image();
            int kept = Math.min(30, hours);
            for (int i = 0; i < hours / 2; i++) {
                x.undo();
            }
            for (int i = 0; i < 35; i++) {
                x.go(4, 1);
            }
            x.back();
            Due.is("about(6)", x.about(6), kept);
            for (int i = 1; i <= kept; i++) {
                Due.is("undo", x.undo(), kept - i);
                Due.is("state", x.ship(0), states[hours - i]);
                Due.is("days", x.ship(2), (hours - i) / 8);
                Due.is("laps", x.ship(3), (hours - i) / 7);
            }
            Due.is("no more", x.undo(), -1);
        }
    }

    private static void anImageOfAground() {
        ShipUnstopped x = new ShipUnstopped(4);
        Due.rule(x, "draught 1;");
        x.depth(0, 0, 0);
        round(x, 4);
        Due.is("image", x.image(), 1);
        x.undo();
        x.go(8, 1);
        Due.is("afloat", x.ship(1), 1);
        Due.is("back", x.back(), 1);
        Due.is("aground", x.ship(1), 0);
        Due.is("there", x.ship(0), Due.state(0, 0, 3, 1));
        Due.is("go", x.go(4, 1), -1);
        Due.is("undo", x.undo(), 3);
        Due.is("afloat", x.ship(1), 1);
    }

    /** What is told behind an image doesn't come into it. */
    private static void anImageIsNoPartOfItself() {
        ShipUnstopped x = new ShipUnstopped(4);
        x.course(4);
        x.goods(1);
        x.image();
        x.course(8);
        x.goods(2);
        x.back();
        x.course(5);
        x.goods(3);
        x.back();
        Due.is("course", x.about(5), 1);
        Due.is("goods", x.level(1), 1);
        x.image();
        x.back();
        Due.is("course", x.sail(0), 1);
        // a text behind the image goes, and one that comes then has its number
        Due.rule(x, "speed 2;");
        x.image();
        Due.rule(x, "speed 3;");
        x.back();
        Due.is("texts", x.about(3), 1);
        Due.is("the text", x.about(4), 0);
        Due.is("speed 2", x.becomes(1, 4, 1), Due.state(0, 2, 1, 2));
        Due.no("by(1)", x.by(1));
        Due.feed(x, "speed 4;");
        Due.is("its number", x.text(), 1);
        x.by(1);
        Due.is("speed 4", x.becomes(1, 4, 1), Due.state(0, 0, 1, 4));
    }

    /** "0 N, 1 ROCKS, 2 WEIGHT, 3 TEXTS, 4 THE TEXT (NONE), 5 .. 9 bytes of the tape, 10 + hour: its WINDS". */
    private static void aboutEachThing() {
        ShipUnstopped x = new ShipUnstopped(9);
        int[] at = {9, 0, 0, 0, -1, 0, 0, 0, 0, 0};
        for (int what = 0; what < 10; what++) {
            Due.is("about(" + what + ")", x.about(what), at[what]);
        }
        x.rocks(511);
        x.weigh(99);
        for (int i = 0; i < 4; i++) {
            Due.rule(x, "");
        }
        for (int i = 0; i < 60; i++) {
            x.leap(0, i % 2 == 0);
        }
        for (int i = 0; i < 31; i++) {
            x.course(4);
            x.goods(1);
            x.go(4, 1);
            x.feed(0, 0, 0, 0, 0);
        }
        for (int hour = 0; hour < 8; hour++) {
            x.winds(hour, 8 + hour);
            Due.is("winds", x.about(10 + hour), 8 + hour);
        }
        int[] full = {9, 511, 99, 4, 3, 24, 30, 12, 60, 300};
        for (int what = 0; what < 10; what++) {
            Due.is("about(" + what + ")", x.about(what), full[what]);
        }
    }

    /** "20 + 12 lane + place: DEPTH". */
    private static void aboutDepthOfPlacesThatAre() {
        for (int n = 4; n <= 12; n++) {
            ShipUnstopped x = new ShipUnstopped(n);
            for (int i = 0; i < 36; i++) {
                x.depth(i / 12, i % 12, i % 7);
            }
            for (int i = 0; i < 36; i++) {
                Due.is("about(" + (20 + i) + ") of " + n, x.about(20 + i), i % 12 < n ? i % 7 : -2);
            }
        }
    }

    /** about: "-2 for others." */
    private static void aboutMinusTwoForOthers() {
        for (int what : new int[] {-1, -2, 18, 19, 27, 31, 39, 43, 51, 55, 56, 57, 68, 1000, MIN, MAX}) {
            Twins.unchanged("about", x -> Due.is("about(" + what + ")", x.about(what), -2));
        }
    }
}
