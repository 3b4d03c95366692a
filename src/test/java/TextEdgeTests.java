/**
 * Part II of the document and promises 6 to 10: each sentence that names a boundary case has a test of its own here, under that
 * sentence's words.
 */
public final class TextEdgeTests {
    private static final int MIN = Integer.MIN_VALUE;
    private static final int MAX = Integer.MAX_VALUE;
    private static final String[] OPENERS = {"(", "-", "not "};

    public static void main(String[] args) {
        feedHighestByteFirst();
        feedUpToThreeHundred();
        feedRefusedNoneCome();
        endHasItsFirstBytesAlone();
        endRefusedNothingIsDone();
        theTapeIsEmptyThen();
        aFaultIsNoText();
        thereAreFour();
        roomAgainBehindBack();
        faultAheadOfAny();
        faultOfTheLatestRead();
        faultNoneForOthers();
        theTextAtFirstNone();
        byNoneOrOneThatIsThere();
        byFalseForOthers();
        upToThreeHundredBytes();
        blanksAreTwo();
        everyByteBehindANumber();
        lettersMakeOneToken();
        digitsMakeOneToken();
        theLongestSign();
        numbersToNineThousand();
        noClauseAtAll();
        eachClauseOnceAtMost();
        namesOfEachClause();
        noNameAtAll();
        grammarEnds();
        cutsTowardsZero();
        byZeroItIsZero();
        aboveAMillion();
        belowAMillionLess();
        atEachStep();
        fromTheLeft();
        bothSidesAlways();
        comparedWithTheLike();
        namesAtTheirEnds();
        placeOfWhichItSetsOutAndTheNewLane();
        placeOfTideIsComeTo();
        aFaultLeavesNothingOpen();
        theEndAtTheLength();
        theFirstAsTokensComeTo();
        ofOneTokenTheLeast();
        eightMayBeOpen();
        theNinthAtIt();
        whatIsShutIsntOpen();
        minusBetweenTwoIsntOpen();
        aClauseThatWasThere();
        Due.close("TextEdgeTests");
    }

    /** "Twenty bytes come behind the tape, the highest of a first: how many it has." */
    private static void feedHighestByteFirst() {
        ShipUnstopped x = new ShipUnstopped(12);
        Due.is("feed", x.feed(0x73706565, 0x64203220, 0x2B0A313B, 0x20202020, 0x20202020), 20);
        Due.is("feed", x.feed(0x64726175, 0x67687420, 0x353B2020, 0x20202020, 0x20202020), 40);
        Due.is("text 'speed 2 +\\n1;        draught 5;          '", x.text(), 0);
        x.by(0);
        Due.is("speed 3", x.becomes(1, 4, 1), Due.state(0, 3, 1, 3));
        x.depth(0, 1, 4);
        Due.is("draught 5", x.becomes(1, 4, 1), Due.ground(0, 1));
        // a byte is 0 to 255, whatever the sign of its int
        Due.is("feed", x.feed(-1, MIN, MAX, 0x80808080, -2), 20);
        Due.is("text", x.text(), -1);
        Due.is("no token", x.fault(0), 1);
        Due.is("at once", x.fault(1), 0);
    }

    /** feed: ".. if there would be more than 300": 300 may be. */
    private static void feedUpToThreeHundred() {
        ShipUnstopped x = new ShipUnstopped(4);
        for (int i = 1; i <= 15; i++) {
            Due.is("feed", x.feed(i, i, i, i, i), 20 * i);
        }
        Due.is("full", x.feed(1, 1, 1, 1, 1), -1);
        Due.is("end(280)", x.end(280), 280);
        Due.is("just full", x.feed(1, 1, 1, 1, 1), 300);
    }

    /** feed: "NONE, and none come". */
    private static void feedRefusedNoneCome() {
        for (int length = 281; length <= 300; length++) {
            ShipUnstopped x = new ShipUnstopped(12);
            Due.feed(x, "speed 3;" + " ".repeat(length - 8));
            Due.is("feed behind " + length, x.feed(-1, -1, -1, -1, -1), -1);
            Due.is("as many as there were", x.about(9), length);
            Due.is("and the same", x.text(), 0);
        }
        ShipUnstopped x = new ShipUnstopped(12);
        Due.feed(x, " ".repeat(280));
        Due.is("feed behind 280", x.feed(0x20202020, 0x20202020, 0x20202020, 0x20202020, 0x20202021), 300);
        x.text();
        Due.is("they come", x.fault(1), 299);
    }

    /** "The tape has its first n bytes alone: n." */
    private static void endHasItsFirstBytesAlone() {
        String text = "speed 3;draught 4;tide 1=1;  ";
        for (int n = 0; n <= text.length(); n++) {
            ShipUnstopped x = new ShipUnstopped(12);
            Due.feed(x, text);
            Due.is("end", x.end(n), n);
            Due.is("about(9)", x.about(9), n);
            boolean whole = n == 0 || n == 8 || n == 18 || n >= 27;
            Due.is("text of its first " + n, x.text(), whole ? 0 : -1);
        }
        ShipUnstopped x = new ShipUnstopped(12);
        Due.feed(x, "speed 34;!");
        x.end(7);
        Due.is("what is cut doesn't come again", x.feed(0x3B202020, 0x20202020, 0x20202020, 0x20202020, 0x20202020), 27);
        Due.is("text", x.text(), 0);
        x.by(0);
        Due.is("speed 3", x.becomes(1, 4, 1), Due.state(0, 3, 1, 3));
        // end(0) of an empty tape, and of a full one
        Due.is("end(0)", x.end(0), 0);
        Due.feed(x, "x".repeat(300));
        Due.is("end(300)", x.end(300), 300);
        Due.is("end(0)", x.end(0), 0);
        Due.is("about(9)", x.about(9), 0);
    }

    /** end: "NONE, and nothing is done, if it has not so many, or n is below 0." */
    private static void endRefusedNothingIsDone() {
        for (int n : new int[] {-1, -2, MIN, 14, 15, 300, 301, MAX}) {
            Twins.unchanged("end of 13 bytes", x -> Due.is("end(" + n + ")", x.end(n), -1));
        }
        ShipUnstopped x = new ShipUnstopped(4);
        Due.is("end(1) of none", x.end(1), -1);
        Due.feed(x, "x".repeat(300));
        Due.is("end(301)", x.end(301), -1);
        x.end(200);
        Due.is("end(201)", x.end(201), -1);
        Due.is("about(9)", x.about(9), 200);
    }

    /** "The tape (empty then) is a TEXT: its number." */
    private static void theTapeIsEmptyThen() {
        ShipUnstopped x = new ShipUnstopped(4);
        for (int i = 0; i < 4; i++) {
            Due.feed(x, "speed " + i + ";");
            Due.is("its number", x.text(), i);
            Due.is("empty then", x.about(9), 0);
            Due.is("texts", x.about(3), i + 1);
            Due.is("THE TEXT is told, not taken", x.about(4), -1);
        }
    }

    /** text: "NONE: it has a FAULT": the tape is empty then, too, and no TEXT is there. */
    private static void aFaultIsNoText() {
        ShipUnstopped x = new ShipUnstopped(12);
        Due.rule(x, "speed 2;");
        for (String text : new String[] {"speed", "tide 10000=1;", "draught ---------1;", "speed 1;speed", "tide sail=1;"}) {
            Due.feed(x, text);
            Due.is("text " + text, x.text(), -1);
            Due.is("the tape", x.about(9), 0);
            Due.is("texts", x.about(3), 1);
            Due.no("by(1)", x.by(1));
            Due.is("THE TEXT", x.about(4), 0);
            Due.is("rules yet", x.becomes(1, 4, 1), Due.state(0, 2, 1, 2));
        }
        Due.is("the next number", x.text(), 1);
    }

    /** text: "or (the tape stays) there are 4": and it isn't read. */
    private static void thereAreFour() {
        ShipUnstopped x = new ShipUnstopped(12);
        for (int i = 1; i <= 4; i++) {
            Due.rule(x, "speed " + i + ";");
        }
        for (String text : new String[] {"speed 9;", "speed !", ""}) {
            Due.feed(x, text);
            Due.is("text", x.text(), -1);
            Due.is("the tape stays", x.about(9), text.length());
            Due.is("4", x.about(3), 4);
            Due.is("the latest text that was read has no fault", x.fault(0), 0);
            Due.is("nor its place", x.fault(1), -1);
        }
        for (int i = 0; i < 4; i++) {
            Due.yes("by", x.by(i));
            Due.is("speed", x.becomes(1, 4, 1), Due.state(0, i + 1, 1, i + 1));
        }
        ShipUnstopped y = new ShipUnstopped(12);
        for (int i = 0; i < 3; i++) {
            Due.rule(y, "");
        }
        Due.feed(y, "speed 1 1;");
        y.text();
        Due.is("a fault at three", y.fault(0), 1);
        Due.rule(y, "");
        Due.feed(y, "speed 10000;");
        y.text();
        Due.is("no fault at four", y.fault(0), 0);
        y.end(0);
        y.text();
        Due.is("about(3)", y.about(3), 4);
    }

    /** The same, and "BACK: all is so again": what the tape held all the while is read then. */
    private static void roomAgainBehindBack() {
        ShipUnstopped x = new ShipUnstopped(12);
        Due.rule(x, "speed 2;");
        x.image();
        for (int i = 0; i < 3; i++) {
            Due.rule(x, "speed 3;");
        }
        Due.feed(x, "speed 4;");
        Due.is("four", x.text(), -1);
        x.back();
        Due.is("texts", x.about(3), 1);
        Due.is("the tape stays", x.about(9), 8);
        Due.is("text", x.text(), 1);
        Due.no("by(2)", x.by(2));
        Due.yes("by(1)", x.by(1));
        Due.is("speed 4", x.becomes(1, 4, 1), Due.state(0, 4, 1, 4));
        x.by(0);
        Due.is("speed 2", x.becomes(1, 4, 1), Due.state(0, 2, 1, 2));
    }

    /** fault: "NONE for others, and ahead of any." */
    private static void faultAheadOfAny() {
        ShipUnstopped x = new ShipUnstopped(4);
        for (int what = -2; what <= 3; what++) {
            Due.is("fault", x.fault(what), -1);
        }
        Due.feed(x, "speed !");
        Due.is("fed isn't read", x.fault(0), -1);
        Due.yes("by none", x.by(-1));
        Due.is("by isn't reading", x.fault(0), -1);
        x.text();
        Due.is("read", x.fault(0), 1);
        Due.is("its place", x.fault(1), 6);
    }

    /** "Of the latest text that was read: 0 its FAULT (0 without), 1 its place (NONE without)." */
    private static void faultOfTheLatestRead() {
        ShipUnstopped x = new ShipUnstopped(4);
        String[] texts = {"!", "", "speed 10000;", "speed (((((((((", " ", "tide 1=1; tide", "draught 1;", "draught lane;"};
        int[][] due = {{1, 0}, {0, -1}, {2, 6}, {3, 14}, {0, -1}, {4, 10}, {0, -1}, {5, 8}};
        for (int i = 0; i < texts.length; i++) {
            Due.feed(x, texts[i]);
            x.text();
            Due.is("fault(0)", x.fault(0), due[i][0]);
            Due.is("fault(1)", x.fault(1), due[i][1]);
            x.back();
            Due.is("an image has no fault", x.fault(0), due[i][0]);
            x.by(-1);
            x.end(0);
            Due.is("its place", x.fault(1), due[i][1]);
        }
    }

    private static void faultNoneForOthers() {
        for (int what : new int[] {-1, 2, 3, MIN, MAX}) {
            Twins.unchanged("fault", x -> Due.is("fault(" + what + ")", x.fault(what), -1));
        }
    }

    /** "THE TEXT (told; at first none) rules." */
    private static void theTextAtFirstNone() {
        ShipUnstopped x = new ShipUnstopped(12);
        Due.is("about(4)", x.about(4), -1);
        Due.feed(x, "speed 4;");
        x.text();
        Due.is("speed 1", x.becomes(1, 4, 1), Due.state(0, 1, 1, 1));
        Due.is("reach", x.reach(1, 1, 0), 2);
        x.by(0);
        Due.is("speed 4", x.becomes(1, 4, 1), Due.state(0, 4, 1, 4));
        Due.is("reach", x.reach(1, 1, 0), 16);
    }

    /** "THE TEXT (NONE: none): true." */
    private static void byNoneOrOneThatIsThere() {
        ShipUnstopped x = new ShipUnstopped(12);
        Due.yes("none, without texts", x.by(-1));
        for (int i = 0; i < 4; i++) {
            Due.no("the next", x.by(i));
            Due.feed(x, "speed " + (i + 1) + ";");
            x.text();
            Due.yes("the last", x.by(i));
            Due.is("about(4)", x.about(4), i);
            Due.no("the next", x.by(i + 1));
            Due.is("about(4)", x.about(4), i);
            Due.yes("again", x.by(i));
        }
        Due.yes("none", x.by(-1));
        Due.is("about(4)", x.about(4), -1);
        Due.is("speed 1", x.becomes(1, 4, 1), Due.state(0, 1, 1, 1));
    }

    /** by: "False for others." */
    private static void byFalseForOthers() {
        for (int text : new int[] {-2, 1, 2, 3, 4, MIN, MAX}) {
            Twins.unchanged("by", x -> Due.no("by(" + text + ")", x.by(text)));
        }
    }

    /** "TEXTS 0 .. 3: of up to 300 bytes." */
    private static void upToThreeHundredBytes() {
        String text = "speed 0" + "-1+1".repeat(71) + "+1+1+1" + "+0;";
        Due.is("its length", text.length(), 300);
        ShipUnstopped x = new ShipUnstopped(12);
        Due.rule(x, text);
        Due.is("speed 3", x.becomes(1, 4, 1), Due.state(0, 3, 1, 3));
        Due.fault(text.substring(0, 299) + " ", 1, 300);
        Due.fault(text.substring(0, 299) + "!", 1, 299);
        Due.fault(" ".repeat(300), 0, 0);
        Due.fault("\n".repeat(292) + "speed 1;", 0, 0);
        Due.fault("a".repeat(300), 1, 0);
        Due.fault(";".repeat(300), 1, 0);
        Due.fault("speed" + "-".repeat(295), 3, 13);
        Due.fault("speed" + "1".repeat(3) + "+1".repeat(146), 1, 300);
        Due.fault("9".repeat(300), 1, 0);
        Due.fault("speed " + "9".repeat(294), 2, 6);
        Due.fault("speed " + "0".repeat(293) + ";", 0, 0);
    }

    /** "TOKENS, blanks (32, 10) aside": no other byte is a blank, and none but a token stands alone. */
    private static void blanksAreTwo() {
        for (int b = 0; b < 256; b++) {
            boolean blank = b == 32 || b == 10;
            Due.fault("" + (char) b, blank ? 0 : 1, 0);
            int at = faultBehindTide(b);
            Due.fault("tide" + (char) b + "1=1;", at < 0 ? 0 : 1, at);
            Due.fault("speed 1;" + (char) b, blank ? 0 : 1, 8);
        }
    }

    /** Where 'tide?1=1;' has its fault, by the byte between; -1: it has none. */
    private static int faultBehindTide(int b) {
        if (b >= 'a' && b <= 'z' || b >= 'A' && b <= 'Z') {
            return 0;
        }
        if (b >= '0' && b <= '9' || b == ' ' || b == '\n' || b == '-') {
            return -1;
        }
        // behind a bracket that isn't shut, the sign can't stand
        return b == '(' ? 6 : 4;
    }

    private static void everyByteBehindANumber() {
        for (int b = 0; b < 256; b++) {
            boolean fine = b == 32 || b == 10 || b >= '0' && b <= '9';
            boolean laterOn = "+-*/;".indexOf(b) >= 0;
            Due.fault("speed 1" + (char) b + ";", fine ? 0 : 1, laterOn ? 8 : 7);
        }
    }

    /** "letters a .. z, A .. Z one behind the other (one TOKEN)". */
    private static void lettersMakeOneToken() {
        for (String text : new String[] {"speedhour;", "speedspeed 1;", "SPEED 1;", "Speed 1;", "speeD 1;", "spee d 1;"}) {
            Due.fault(text, 1, 0);
        }
        for (String word : new String[] {"Hour", "houR", "HOUR", "hourhour", "hou", "hourz", "hourA", "ahour", "notnot"}) {
            Due.fault("speed " + word + ";", 1, 6);
        }
        Due.fault("speed1;", 0, 0);
        Due.fault("speed 1*hour;", 0, 0);
        Due.fault("speed 1hour;", 1, 7);
        Due.fault("speed hour1;", 1, 10);
        Due.fault("tide 1=1and 2=2or 3=3;", 0, 0);
        Due.fault("tide 1=1and2=2or3=3;", 0, 0);
        Due.fault("tide 1=1andnot 2=2;", 1, 8);
        Due.fault("tide not1=1;", 0, 0);
        Due.fault("tide nothour=1;", 1, 5);
        Due.fault("tide not\nhour=1;", 0, 0);
    }

    /** "digits likewise". */
    private static void digitsMakeOneToken() {
        ShipUnstopped x = new ShipUnstopped(12);
        Due.rule(x, "speed 1002-1000;");
        Due.is("speed 2", x.becomes(1, 4, 1), Due.state(0, 2, 1, 2));
        Due.fault("speed 1 2;", 1, 8);
        Due.fault("speed 1\n2;", 1, 8);
        Due.fault("speed 12;", 0, 0);
        Due.fault("speed 0123456789;", 2, 6);
        Due.fault("speed 1.5;", 1, 7);
        Due.fault("speed 1,5;", 1, 7);
    }

    /** "<= >= < > = # + - * / ( ) ; (the longest)". */
    private static void theLongestSign() {
        Due.fault("tide 1<=1;", 0, 0);
        Due.fault("tide 1>=1;", 0, 0);
        Due.fault("tide 1< =1;", 1, 8);
        Due.fault("tide 1> =1;", 1, 8);
        Due.fault("tide 1<==1;", 1, 8);
        Due.fault("tide 1>==1;", 1, 8);
        Due.fault("tide 1==1;", 1, 7);
        Due.fault("tide 1=<1;", 1, 7);
        Due.fault("tide 1=>1;", 1, 7);
        Due.fault("tide 1<>1;", 1, 7);
        Due.fault("tide 1><1;", 1, 7);
        Due.fault("tide 1<<1;", 1, 7);
        Due.fault("tide 1##1;", 1, 7);
        Due.fault("tide 1#=1;", 1, 7);
        Due.fault("tide 1<=-1;", 0, 0);
        Due.fault("tide 1<-1;", 0, 0);
        Due.fault("tide 1<", 1, 7);
        Due.fault("tide 1<=", 1, 8);
        ShipUnstopped x = new ShipUnstopped(4);
        x.rocks(2);
        Due.rule(x, "tide 1<=1;");
        Due.is("<= isn't < and =", x.becomes(1, 4, 1), Due.state(0, 1, 1, 1));
    }

    /** "NUMBERS, 0 .. 9999"; FAULT "2 a NUMBER above 9999", at its first byte. */
    private static void numbersToNineThousand() {
        Due.fault("speed 0;", 0, 0);
        Due.fault("speed 9999;", 0, 0);
        Due.fault("speed 10000;", 2, 6);
        Due.fault("speed  10001;", 2, 7);
        Due.fault("speed 0009999;", 0, 0);
        Due.fault("speed 00010000;", 2, 6);
        Due.fault("speed 2147483648;", 2, 6);
        Due.fault("speed 4294967296;", 2, 6);
        Due.fault("speed 4294967297;", 2, 6);
        Due.fault("speed 18446744073709551616;", 2, 6);
        Due.fault("speed 18446744073709551617;", 2, 6);
        Due.fault("draught 10000;", 2, 8);
        Due.fault("tide 1=10000;", 2, 7);
        Due.fault("tide -10000=1;", 2, 6);
        Due.fault("speed (10000);", 2, 7);
        ShipUnstopped x = new ShipUnstopped(4);
        x.rocks(2);
        Due.rule(x, "tide 9999=9998+1;");
        Due.is("9999", x.becomes(1, 4, 1), Due.state(0, 1, 1, 1));
        Due.rule(x, "tide 00012=12;");
        Due.is("12", x.becomes(1, 4, 1), Due.state(0, 1, 1, 1));
    }

    /** "{CLAUSE}": none at all is a text without laws. */
    private static void noClauseAtAll() {
        ShipUnstopped x = new ShipUnstopped(4);
        Due.is("text of an empty tape", x.text(), 0);
        Due.is("no fault", x.fault(0), 0);
        Due.yes("by it", x.by(0));
        x.rocks(15);
        x.depth(0, 1, 0);
        Due.is("speed 1, draught 0, tide so", x.becomes(Due.state(0, 0, 0, 4), 7, 3), Due.state(0, 1, 1, 1));
    }

    /** "each once at most: speed SUM ; or draught SUM ; or tide EITHER ;": in any order. */
    private static void eachClauseOnceAtMost() {
        String[] clauses = {"speed 3;", "draught 5;", "tide place#2;"};
        for (int set = 0; set < 8; set++) {
            for (int first = 0; first < 3; first++) {
                for (int turn = 1; turn <= 2; turn++) {
                    StringBuilder text = new StringBuilder();
                    for (int i = 0; i < 3; i++) {
                        int clause = (first + turn * i) % 3;
                        text.append((set >> clause & 1) == 1 ? clauses[clause] : "");
                    }
                    ShipUnstopped x = new ShipUnstopped(12);
                    Due.rule(x, text.toString());
                    int speed = (set & 1) == 1 ? 3 : 1;
                    x.depth(1, 1, 4);
                    x.rocks(6);
                    Due.is(text.toString(), x.becomes(1, 8, 1), (set & 2) == 2 ? Due.ground(1, 1) : (set & 4) == 4 && speed == 3
                        ? Due.ground(1, 2) : Due.state(1, speed, 1, speed));
                }
            }
        }
    }

    /** "NAMES: hour, weight; of speed besides: ..; of draught besides: fast; of tide besides: place"; FAULT 5 "at it". */
    private static void namesOfEachClause() {
        String[] names = {"hour", "weight", "sail", "wind", "last", "place", "lane", "fast"};
        String speed = "hour weight sail wind last place lane ";
        String draught = "hour weight fast ";
        String tide = "hour weight place ";
        for (String name : names) {
            Due.fault("speed " + name + ";", speed.contains(name + " ") ? 0 : 5, 6);
            Due.fault("draught " + name + ";", draught.contains(name + " ") ? 0 : 5, 8);
            Due.fault("tide " + name + "=1;", tide.contains(name + " ") ? 0 : 5, 5);
            Due.fault("tide 1=1 or not 2<(-" + name + ");", tide.contains(name + " ") ? 0 : 5, 20);
            // the names are those of the clause it stands in, not of one ahead of it
            Due.fault("speed 1;draught " + name + ";", draught.contains(name + " ") ? 0 : 5, 16);
            Due.fault("draught 1;tide 1=" + name + ";", tide.contains(name + " ") ? 0 : 5, 17);
            Due.fault("tide 1=1;speed 1*" + name + ";", speed.contains(name + " ") ? 0 : 5, 17);
        }
    }

    /** What is no NAME at all can't stand there: FAULT 1, not 5. */
    private static void noNameAtAll() {
        for (String word : new String[] {"foo", "x", "Z", "speed", "draught", "tide", "or", "and", "not", "depth", "rocks", "fas", "lanes"}) {
            Due.fault("speed " + word + ";", 1, 6);
            Due.fault("draught 1+" + word + ";", 1, 10);
        }
        for (String word : new String[] {"foo", "speed", "tide", "or", "and"}) {
            Due.fault("tide " + word + "=1;", 1, 5);
            Due.fault("tide 1=" + word + ";", 1, 7);
        }
    }

    /** What a clause must have, and what may not stand in it: FAULT 1 at the token that can't stand there. */
    private static void grammarEnds() {
        Object[][] due = {
            {"speed;", 5}, {"speed 1;;", 8}, {";", 0}, {"1;", 0}, {"hour;", 0}, {"(speed 1;", 0}, {"not 1=1;", 0}, {"speed 1 speed 2;", 8},
            {"speed ();", 7}, {"speed (1;", 8}, {"speed 1);", 7}, {"speed (1));", 9}, {"speed ((1);", 10}, {"speed )1(;", 6},
            {"speed +1;", 6}, {"speed *1;", 6}, {"speed /1;", 6}, {"speed 1+;", 8}, {"speed 1-;", 8}, {"speed 1*;", 8}, {"speed 1/;", 8},
            {"speed -;", 7}, {"speed 1++1;", 8}, {"speed 1-+1;", 8}, {"speed (+1);", 7}, {"speed 1(2);", 7}, {"speed (1)(2);", 9},
            {"speed (1)2;", 9}, {"speed 1=1;", 7}, {"speed (1=1);", 8}, {"speed 1 and 1;", 8}, {"speed 1 or 1;", 8}, {"speed not 1;", 6},
            {"draught 1<2;", 9}, {"draught not 1;", 8}, {"draught;", 7}, {"tide;", 4}, {"tide 1;", 6}, {"tide 1+1;", 8}, {"tide (1=1);", 7},
            {"tide not;", 8}, {"tide not 1;", 10}, {"tide 1=;", 7}, {"tide =1;", 5}, {"tide 1=1=1;", 8}, {"tide 1=1<1;", 8},
            {"tide 1=1 or;", 11}, {"tide 1=1 and;", 12}, {"tide or 1=1;", 5}, {"tide and 1=1;", 5}, {"tide 1=1 or or 1=1;", 12},
            {"tide 1=1 and or 1=1;", 13}, {"tide 1=1 not 1=1;", 9}, {"tide 1=not 1=1;", 7}, {"tide 1=1 or 1;", 13}, {"tide 1 or 1=1;", 7},
            {"tide 1=(1=1);", 9}, {"tide 1=1);", 8}, {"tide 1=1 2=2;", 9}, {"tide (1 or 1)=1;", 8}, {"tide (not 1)=1;", 6}
        };
        for (Object[] row : due) {
            Due.fault((String) row[0], 1, (Integer) row[1]);
        }
    }

    /** What a sum comes to, by a tide that asks for it and one that asks for anything else. */
    private static void sum(String sum, String value) {
        ShipUnstopped x = new ShipUnstopped(4);
        x.rocks(2);
        Due.rule(x, "tide " + sum + "=" + value + ";");
        Due.is(sum + " is " + value, x.becomes(1, 4, 1), Due.state(0, 1, 1, 1));
        Due.rule(x, "tide " + sum + "#" + value + ";");
        Due.is(sum + " isn't unlike " + value, x.becomes(1, 4, 1), Due.ground(0, 1));
    }

    /** "/ cuts towards 0". */
    private static void cutsTowardsZero() {
        sum("7/2", "3");
        sum("-7/2", "-3");
        sum("7/-2", "-3");
        sum("-7/-2", "3");
        sum("1/2", "0");
        sum("-1/2", "0");
        sum("(0-1)/2", "0");
        sum("1/-2", "0");
        sum("6/3", "2");
        sum("-6/3", "-2");
        sum("0/5", "0");
        sum("9999/1", "9999");
        sum("9999/9999", "1");
        sum("9998/9999", "0");
    }

    /** ".. by 0 it is 0". */
    private static void byZeroItIsZero() {
        sum("5/0", "0");
        sum("-5/0", "0");
        sum("0/0", "0");
        sum("5/-0", "0");
        sum("5/(3-3)", "0");
        sum("5/weight", "0");
        sum("1+5/0*7", "1");
        sum("9999*9999/0", "0");
        sum("5/(1/2)", "0");
    }

    /** "what is above 1000000 .. is that". */
    private static void aboveAMillion() {
        sum("1000*1000", "1000*1000");
        sum("1000*1000-9999*100", "100");
        sum("(1000*1000+1)-9999*100", "100");
        sum("(999*1001+1)-9999*100", "100");
        sum("999*1001-9999*100", "99");
        sum("9999*9999-9999*100", "100");
        sum("-9999*-9999-9999*100", "100");
        sum("(1000*1000+1000*1000)-9999*100", "100");
        sum("1000*1000-(-1)-9999*100", "100");
        sum("1000*1000*(1000*1000)-9999*100", "100");
    }

    /** ".. (below the same less)". */
    private static void belowAMillionLess() {
        sum("-1000*1000+9999*100", "-100");
        sum("(-1000*1000-1)+9999*100", "-100");
        sum("(-999*1001-1)+9999*100", "-100");
        sum("-999*1001+9999*100", "-99");
        sum("-9999*9999+9999*100", "-100");
        sum("9999*-9999+9999*100", "-100");
        sum("(-1000*1000-1000*1000)+9999*100", "-100");
        sum("-(9999*9999)+9999*100", "-100");
        sum("1000*1000*(-1000*1000)+9999*100", "-100");
    }

    /** ".. at each step". */
    private static void atEachStep() {
        sum("9999*9999/9999", "100");
        sum("9999*(9999/9999)", "9999");
        sum("9999*100+9999-9999", "9901*100-99");
        sum("1000*1000+1000-1000-999*1000", "0");
        sum("-1000*1000-1000+1000+999*1000", "0");
        sum("9999*9999*0", "0");
        sum("9999*9999/1000/1000", "1");
    }

    /** "From the left". */
    private static void fromTheLeft() {
        sum("10-3-2", "5");
        sum("10-3+2", "9");
        sum("100/10/5", "2");
        sum("100/10*5", "50");
        sum("7*3/2", "10");
        sum("7/2*3", "9");
        sum("2+3*4-5", "9");
        sum("(2+3)*4-5", "15");
        sum("-2+5", "3");
        sum("-2*3+10", "4");
        sum("-(2+5)+10", "3");
    }

    /** "or and and look at both sides always": nothing that is beside a side can change what comes of it. */
    private static void bothSidesAlways() {
        for (int set = 0; set < 16; set++) {
            boolean a = (set & 1) != 0;
            boolean b = (set & 2) != 0;
            boolean c = (set & 4) != 0;
            boolean d = (set & 8) != 0;
            ShipUnstopped x = new ShipUnstopped(4);
            x.rocks(2);
            String[] asks = new String[4];
            for (int i = 0; i < 4; i++) {
                asks[i] = (set >> i & 1) == 1 ? "1/0=0" : "1/0=1";
            }
            Due.rule(x, "tide " + asks[0] + " and " + asks[1] + " or " + asks[2] + " and not " + asks[3] + ";");
            Due.is("a and b or c and not d", x.becomes(1, 4, 1), a && b || c && !d ? Due.state(0, 1, 1, 1) : Due.ground(0, 1));
            Due.rule(x, "tide not " + asks[0] + " or " + asks[1] + " and " + asks[2] + " or " + asks[3] + ";");
            Due.is("not a or b and c or d", x.becomes(1, 4, 1), !a || b && c || d ? Due.state(0, 1, 1, 1) : Due.ground(0, 1));
        }
    }

    /** "one of < <= > >= = # (unlike)": below, like and above. */
    private static void comparedWithTheLike() {
        String[] signs = {"<", "<=", ">", ">=", "=", "#"};
        String[] values = {"-1000*1000", "-1", "0", "1", "9999", "1000*1000"};
        for (int a = 0; a < 6; a++) {
            for (int b = 0; b < 6; b++) {
                boolean[] so = {a < b, a <= b, a > b, a >= b, a == b, a != b};
                for (int i = 0; i < 6; i++) {
                    ShipUnstopped x = new ShipUnstopped(4);
                    x.rocks(2);
                    String ask = values[a] + signs[i] + values[b];
                    Due.rule(x, "tide " + ask + ";");
                    Due.is(ask, x.becomes(1, 4, 1), so[i] ? Due.state(0, 1, 1, 1) : Due.ground(0, 1));
                    Due.rule(x, "tide not " + ask + ";");
                    Due.is("not " + ask, x.becomes(1, 4, 1), so[i] ? Due.ground(0, 1) : Due.state(0, 1, 1, 1));
                }
            }
        }
    }

    /** The NAMES of speed at the ends of what they can be. */
    private static void namesAtTheirEnds() {
        for (int end = 0; end < 2; end++) {
            int hour = 7 * end;
            int last = 1 + 3 * end;
            int place = 11 * end;
            int state = Due.state(1, place, hour, last);
            String[] names = {"hour", "weight", "sail", "wind", "last", "place", "lane"};
            int[] values = {hour, 99 * end, 3 * end, 3 * end, last, place, 2 * end};
            for (int i = 0; i < 7; i++) {
                ShipUnstopped x = new ShipUnstopped(12);
                x.weigh(99 * end);
                Due.rule(x, "speed 2+" + names[i] + "-" + values[i] + ";");
                Due.is(names[i], x.becomes(state, 11 * end, 3 * end), Due.state(2 * end, (place + 2) % 12, (hour + 1) % 8, 2));
            }
        }
    }

    /** "place, lane (of which it sets out; the new one)". */
    private static void placeOfWhichItSetsOutAndTheNewLane() {
        ShipUnstopped x = new ShipUnstopped(12);
        Due.rule(x, "speed place-4;");
        for (int place = 0; place < 12; place++) {
            int speed = Math.max(1, Math.min(4, place - 4));
            Due.is("from " + place, x.becomes(Due.state(0, place, 0, 1), 8, 1), Due.state(1, (place + speed) % 12, 1, speed));
        }
        Due.rule(x, "speed lane+2;");
        for (int lane = 0; lane < 3; lane++) {
            for (int steer = -1; steer <= 1; steer++) {
                int to = lane + steer;
                int due = to < 0 || to > 2 ? -1 : Due.state(to, to + 2, 1, to + 2);
                Due.is("from lane " + lane + " to " + to, x.becomes(Due.state(lane, 0, 0, 1), Due.choice(steer, 0), 1), due);
                Due.is("reach", x.reach(Due.state(lane, 0, 0, 1), 1, Math.max(0, Math.min(2, to))),
                    due >= 0 ? 1 << to + 2 : 1 << Math.max(0, Math.min(2, to)) + 2);
            }
        }
    }

    /** "of tide besides: place": each PLACE with ROCKS to which it comes. */
    private static void placeOfTideIsComeTo() {
        for (int bare = 0; bare < 6; bare++) {
            ShipUnstopped x = new ShipUnstopped(6);
            Due.rule(x, "speed 3;tide place#" + bare + ";");
            x.rocks(63);
            for (int from = 0; from < 6; from++) {
                int steps = (bare - from + 6) % 6;
                boolean ground = steps >= 1 && steps <= 3;
                Due.is("from " + from + " with " + bare + " bare", x.becomes(Due.state(2, from, 4, 1), 4, 1),
                    ground ? Due.ground(2, bare) : Due.state(2, (from + 3) % 6, 5, 3));
            }
        }
    }

    /** A text that ended in the midst of what was open counts nothing of it for the next one. */
    private static void aFaultLeavesNothingOpen() {
        ShipUnstopped x = new ShipUnstopped(12);
        for (String faulty : new String[] {"speed ((((((((!", "speed --------fast", "tide not not not not not not not not 10000", "speed (((((((((1"}) {
            Due.feed(x, faulty);
            Due.is("text", x.text(), -1);
        }
        Due.rule(x, "speed ((((((((3))))))));draught --------5;");
        Due.is("speed 3", x.becomes(1, 4, 1), Due.state(0, 3, 1, 3));
        // nor do clauses that it had
        Due.feed(x, "speed 1;draught 1;tide 1=2;!");
        Due.is("text", x.text(), -1);
        Due.rule(x, "draught 0;");
        x.rocks(4095);
        Due.is("speed 1, tide so", x.becomes(1, 4, 1), Due.state(0, 1, 1, 1));
        // however often: no room is lost
        for (int i = 0; i < 20; i++) {
            Due.feed(x, "speed 1" + "+1".repeat(140) + "!");
            Due.is("text", x.text(), -1);
        }
        Due.rule(x, "speed 1" + "+1-1".repeat(70) + "+1;");
        Due.is("speed 2", x.becomes(1, 4, 1), Due.state(0, 2, 1, 2));
    }

    /** FAULTS: "(of the end at the length)". */
    private static void theEndAtTheLength() {
        String text = "speed 1+(hour);draught -fast;tide not 1<=2 and 3>place;";
        for (int n = 0; n <= text.length(); n++) {
            String cut = text.substring(0, n);
            boolean whole = n == 0 || n == 15 || n == 29 || n == text.length();
            boolean inAWord = n > 0 && n < text.length() && letter(text.charAt(n - 1)) && letter(text.charAt(n));
            // a word that is cut short stands where it began
            int from = n;
            while (inAWord && from > 0 && letter(text.charAt(from - 1))) {
                from--;
            }
            Due.fault(cut, whole ? 0 : 1, from);
            ShipUnstopped x = new ShipUnstopped(4);
            Due.feed(x, text);
            x.end(n);
            x.text();
            Due.is("fault(0), cut to " + n, x.fault(0), whole ? 0 : 1);
            Due.is("fault(1), cut to " + n, x.fault(1), whole ? -1 : from);
            if (!whole && !inAWord) {
                Due.fault(cut + " \n ", 1, n + 3);
            }
        }
    }

    private static boolean letter(char c) {
        return c >= 'a' && c <= 'z';
    }

    /** "FAULTS, the first as TOKENS are come to, at the TOKEN's first byte". */
    private static void theFirstAsTokensComeTo() {
        String[] faulty = {"!", "10000", "(((((((((", "fast"};
        int[] faults = {1, 2, 3, 5};
        int[] at = {0, 0, 8, 0};
        for (int i = 0; i < 4; i++) {
            for (int j = 0; j < 4; j++) {
                Due.fault("speed\n " + faulty[i] + "+ " + faulty[j] + ";", faults[i], 7 + at[i]);
                Due.fault("speed " + faulty[i] + " speed " + faulty[j], faults[i], 6 + at[i]);
            }
            Due.fault("speed 1; speed " + faulty[i], 4, 9);
            Due.fault("speed 1 " + faulty[i], 1, 8);
        }
        Due.fault("draught fast; speed 1; tide 1=1; speed 10000;", 4, 33);
        Due.fault("draught 1; draught 2; speed !", 4, 11);
    }

    /** ".. of one the least": a token that can't stand there has FAULT 1, whatever else it is. */
    private static void ofOneTokenTheLeast() {
        Due.fault("speed 1 10000;", 1, 8);
        Due.fault("10000", 1, 0);
        Due.fault("speed 1 fast;", 1, 8);
        Due.fault("fast", 1, 0);
        Due.fault("speed ((((((((1(2", 1, 15);
        Due.fault("speed --------1(2", 1, 15);
        Due.fault("speed --------not", 1, 14);
        Due.fault("tide not not not not not not not not 1 not", 1, 39);
        Due.fault("speed 1; draught speed 2;", 1, 17);
        Due.fault("speed 1+speed 2;", 1, 8);
    }

    /** FAULT 3: eight of "( not and - (of one ONE)" may be open around one another, of any kinds. */
    private static void eightMayBeOpen() {
        for (int set = 0; set < 256; set++) {
            StringBuilder text = new StringBuilder("speed ");
            StringBuilder shut = new StringBuilder();
            for (int i = 0; i < 8; i++) {
                boolean bracket = (set >> i & 1) == 1;
                text.append(bracket ? "(" : "-");
                shut.append(bracket ? ")" : "");
            }
            Due.fault(text + "1" + shut + ";", 0, 0);
        }
        for (int nots = 0; nots <= 8; nots++) {
            String text = "tide " + "not ".repeat(nots);
            Due.fault(text + "(".repeat(8 - nots) + "1" + ")".repeat(8 - nots) + "=" + "-".repeat(8 - nots) + "1;", 0, 0);
        }
    }

    /** FAULT 3: "the 9th .. that are open around one another (at it)". */
    private static void theNinthAtIt() {
        for (int set = 0; set < 512; set++) {
            StringBuilder text = new StringBuilder("draught ");
            for (int i = 0; i < 9; i++) {
                text.append((set >> i & 1) == 1 ? "(" : "-");
            }
            Due.fault(text + "1", 3, 16);
            Due.fault(text.toString(), 3, 16);
        }
        for (int nots = 0; nots <= 8; nots++) {
            for (String ninth : OPENERS) {
                boolean asks = nots == 8 || !ninth.equals("not ");
                if (asks) {
                    String ahead = "tide " + "not ".repeat(nots) + "(".repeat(8 - nots);
                    Due.fault(ahead + ninth + "1", 3, ahead.length());
                    String behind = "tide " + "not ".repeat(nots) + "1<=" + "-".repeat(8 - nots);
                    Due.fault(ninth.equals("not ") ? "" : behind + ninth + "1", ninth.equals("not ") ? 0 : 3, behind.length());
                }
            }
        }
    }

    private static void whatIsShutIsntOpen() {
        Due.fault("speed " + "(1)+".repeat(20) + "1;", 0, 0);
        Due.fault("speed " + "-1+".repeat(20) + "1;", 0, 0);
        Due.fault("speed " + "-1*".repeat(20) + "1;", 0, 0);
        Due.fault("speed --------1*--------1+((((((((1))))))));", 0, 0);
        Due.fault("speed --------1*---------1;", 3, 24);
        Due.fault("speed ((((((((1))))))))*(((((((((1", 3, 32);
        Due.fault("speed (-1)*(-(-(-(-1))));", 0, 0);
        Due.fault("tide " + "not 1=1 and ".repeat(20) + "1=1;", 0, 0);
        Due.fault("tide " + "not not not not not not not not 1=1 or ".repeat(5) + "1=1;", 0, 0);
        Due.fault("tide not not not not not not not not 1=1 or -1=1;", 0, 0);
        Due.fault("tide not not not not not not not (1)=(1) and (((((((1)))))))=1;", 0, 0);
        Due.fault("tide not not not not not not not (1)=((1)) and 1=1;", 3, 38);
        // a not is open around both sides of its ask
        Due.fault("tide not not not not not not not not 1=(1);", 3, 39);
        Due.fault("speed ((((((((1))))))));draught ((((((((1))))))));tide ((((((((1))))))))=1;", 0, 0);
    }

    /** "- (of one ONE)": one between two PRODUCTS isn't counted. */
    private static void minusBetweenTwoIsntOpen() {
        Due.fault("speed 1" + "-1".repeat(30) + ";", 0, 0);
        Due.fault("speed ((((((((1-1-1))))))));", 0, 0);
        Due.fault("speed --------1-1;", 0, 0);
        Due.fault("speed --------1---------1;", 0, 0);
        Due.fault("speed --------1----------1;", 3, 24);
        Due.fault("speed ((((((((1--1))))))));", 3, 16);
    }

    /** FAULT "4 a CLAUSE that was there (at its first TOKEN)". */
    private static void aClauseThatWasThere() {
        String[] clauses = {"speed 1;", "draught 1;", "tide 1=1;"};
        for (int i = 0; i < 3; i++) {
            String word = clauses[i].substring(0, clauses[i].indexOf(' '));
            int length = clauses[i].length();
            Due.fault(clauses[i] + clauses[i], 4, length);
            Due.fault(clauses[i] + " " + word, 4, length + 1);
            Due.fault(clauses[i] + "\n" + word + " !", 4, length + 1);
            String all = clauses[0] + clauses[1] + clauses[2];
            Due.fault(all + clauses[i], 4, all.length());
            Due.fault(all + "hour", 1, all.length());
            Due.fault(all + word + "s", 1, all.length());
        }
    }
}
