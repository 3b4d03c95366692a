/** Promises 6 to 10, and what a text means: the tape, the tokens, the faults, how laws are reckoned. */
public final class TextTests {
    public static void main(String[] args) {
        tape();
        texts();
        tokens();
        faults();
        manyFaults();
        nesting();
        sums();
        asks();
        deepest();
        namesOfSpeed();
        namesOfDraughtAndTide();
        Due.close("TextTests");
    }

    private static void tape() {
        ShipUnstopped x = new ShipUnstopped(4);
        Due.is("about(9)", x.about(9), 0);
        Due.is("end(1)", x.end(1), -1);
        Due.is("end(-1)", x.end(-1), -1);
        Due.is("end(0)", x.end(0), 0);
        for (int i = 1; i <= 14; i++) {
            Due.is("feed", x.feed(i, i, i, i, i), 20 * i);
        }
        Due.is("end(279)", x.end(279), 279);
        Due.is("end(280)", x.end(280), -1);
        Due.is("feed to 299", x.feed(0, 0, 0, 0, 0), 299);
        Due.is("end(281)", x.end(281), 281);
        Due.is("feed to 301", x.feed(0, 0, 0, 0, 0), -1);
        Due.is("about(9) as it was", x.about(9), 281);
        Due.is("end(280)", x.end(280), 280);
        Due.is("feed to 300", x.feed(0, 0, 0, 0, 0), 300);
        Due.is("feed to 320", x.feed(0, 0, 0, 0, 0), -1);
        Due.is("end(MIN)", x.end(Integer.MIN_VALUE), -1);
        Due.is("end(MAX)", x.end(Integer.MAX_VALUE), -1);
        Due.is("about(9)", x.about(9), 300);
        // the highest byte comes first
        x.end(0);
        x.feed('s' << 24 | 'p' << 16 | 'e' << 8 | 'e', 'd' << 24 | ' ' << 16 | '3' << 8 | ';', 0, 0, 0);
        x.end(8);
        Due.is("text()", x.text(), 0);
        x.by(0);
        Due.is("becomes by speed 3", x.becomes(1, 4, 0), Due.state(0, 3, 1, 3));
    }

    private static void texts() {
        ShipUnstopped x = new ShipUnstopped(8);
        Due.is("fault(0) ahead of any", x.fault(0), -1);
        Due.is("fault(1) ahead of any", x.fault(1), -1);
        Due.no("by(0) without", x.by(0));
        Due.yes("by(NONE)", x.by(-1));
        Due.is("text() of nothing", x.text(), 0);
        Due.is("fault(0)", x.fault(0), 0);
        Due.is("fault(1)", x.fault(1), -1);
        Due.is("fault(2)", x.fault(2), -1);
        Due.is("fault(-1)", x.fault(-1), -1);
        Due.feed(x, "speed 2;");
        Due.is("text()", x.text(), 1);
        Due.is("about(9)", x.about(9), 0);
        Due.feed(x, "speed !");
        Due.is("text() with a fault", x.text(), -1);
        Due.is("about(9) behind a fault", x.about(9), 0);
        Due.is("about(3)", x.about(3), 2);
        Due.feed(x, "speed 3;");
        Due.is("text()", x.text(), 2);
        Due.feed(x, "speed 4;");
        Due.is("text()", x.text(), 3);
        Due.feed(x, "speed !");
        Due.is("text() of a fifth", x.text(), -1);
        Due.is("the tape stays", x.about(9), 7);
        Due.is("it was not read", x.fault(0), 0);
        Due.is("about(3)", x.about(3), 4);
        int[] speeds = {1, 2, 3, 4};
        for (int i = 3; i >= 0; i--) {
            Due.yes("by", x.by(i));
            Due.is("about(4)", x.about(4), i);
            Due.is("becomes", x.becomes(1, 4, 1), Due.state(0, speeds[i], 1, speeds[i]));
        }
        Due.no("by(4)", x.by(4));
        Due.no("by(-2)", x.by(-2));
        x.by(2);
        Due.yes("by(NONE)", x.by(-1));
        Due.is("about(4)", x.about(4), -1);
        Due.is("becomes without", x.becomes(1, 4, 1), Due.state(0, 1, 1, 1));
    }

    private static void tokens() {
        Due.fault("", 0, 0);
        Due.fault("  \n ", 0, 0);
        Due.fault("speed\n1 ;", 0, 0);
        Due.fault(" speed(hour)*-weight;tide hour<=1or hour#2;draught fast;", 0, 0);
        Due.fault("speed\t1;", 1, 5);
        Due.fault("speed\r1;", 1, 5);
        Due.fault("speed " + (char) 233 + ";", 1, 6);
        Due.fault("" + (char) 0, 1, 0);
        Due.fault("Speed 1;", 1, 0);
        Due.fault("speed1;", 0, 0);
        Due.fault("speed 1hour;", 1, 7);
        Due.fault("speed 00009999;", 0, 0);
        Due.fault("speed 0000;", 0, 0);
        Due.fault("speed 10000;", 2, 6);
        Due.fault("speed 99999999999999999999;", 2, 6);
        Due.fault("speed hours;", 1, 6);
        Due.fault("speed hou;", 1, 6);
        Due.fault("tide 1 < = 2;", 1, 9);
        Due.fault("tide 1 =< 2;", 1, 8);
        Due.fault("tide 1 <> 2;", 1, 8);
        Due.fault("tide 1 >= 2;", 0, 0);
        Due.fault("tide 1 >- 2;", 0, 0);
        Due.fault("tide 1 <=- 2;", 0, 0);
        for (String end : new String[] {"a", "z", "A", "Z"}) {
            Due.fault("speed hour" + end + ";", 1, 6);
        }
        for (String sign : new String[] {"@", "[", "`", "{", ":", "_", "." , ",", "$", "%", "&", "'", "?", "~"}) {
            Due.fault("speed hour" + sign + ";", 1, 10);
            Due.fault("speed 12" + sign + "3;", 1, 8);
        }
        Due.fault("speed 01234+56789;", 2, 12);
        Due.fault(";".repeat(300), 1, 0);
        Due.fault("(".repeat(300), 1, 0);
        cut("speed 12;", 7, 1, 7);
        cut("speed hour+1;", 8, 1, 6);
        cut("tide 1<=2;", 7, 1, 7);
        cut("speed 1; ;", 8, 0, 0);
        cut("speed 1; tide", 11, 1, 9);
        StringBuilder longest = new StringBuilder("speed 1");
        while (longest.length() < 299) {
            longest.append(longest.length() % 2 == 1 ? '+' : '1');
        }
        Due.fault(longest + ";", 0, 0);
        Due.fault(longest + "!", 1, 299);
        Due.fault(longest + " ", 1, 300);
    }

    /** What stands behind the end of the tape, from what was fed, doesn't count. */
    private static void cut(String text, int n, int fault, int at) {
        ShipUnstopped x = new ShipUnstopped(4);
        Due.feed(x, text);
        x.end(n);
        Due.is("text: " + text + " to " + n, x.text(), fault == 0 ? 0 : -1);
        Due.is("fault(0): " + text + " to " + n, x.fault(0), fault);
        Due.is("fault(1): " + text + " to " + n, x.fault(1), fault == 0 ? -1 : at);
    }

    private static void manyFaults() {
        ShipUnstopped x = new ShipUnstopped(12);
        for (int i = 0; i < 60; i++) {
            Due.feed(x, "speed 1+1+1+1+1+1+1; tide 1<2; draught 9; speed 1;");
            Due.is("text()", x.text(), -1);
            Due.is("fault(0)", x.fault(0), 4);
        }
        Due.rule(x, "speed 1+2;");
        Due.is("becomes", x.becomes(1, 4, 1), Due.state(0, 3, 1, 3));
        // what a longer text with a fault left behind doesn't count
        Due.feed(x, "speed -1;!");
        Due.is("text()", x.text(), -1);
        Due.rule(x, "speed 3;");
        Due.is("becomes", x.becomes(1, 4, 1), Due.state(0, 3, 1, 3));
    }

    private static void faults() {
        Due.fault("speed", 1, 5);
        Due.fault("speed   ", 1, 8);
        Due.fault("speed 1", 1, 7);
        Due.fault("speed ;", 1, 6);
        Due.fault("speed 1;;", 1, 8);
        Due.fault("hour", 1, 0);
        Due.fault("; speed", 1, 0);
        Due.fault("speed 1 2;", 1, 8);
        Due.fault("speed 1 20000;", 1, 8);
        Due.fault("speed 1 hour;", 1, 8);
        Due.fault("speed 1 fast;", 1, 8);
        Due.fault("speed (1;", 1, 8);
        Due.fault("speed 1);", 1, 7);
        Due.fault("speed ();", 1, 7);
        Due.fault("speed 1+;", 1, 8);
        Due.fault("speed 1*/2;", 1, 8);
        Due.fault("speed +1;", 1, 6);
        Due.fault("speed 1 < 2;", 1, 8);
        Due.fault("speed not 1;", 1, 6);
        Due.fault("speed speed;", 1, 6);
        Due.fault("speed 1 or 2;", 1, 8);
        Due.fault("tide 1;", 1, 6);
        Due.fault("tide 1 < 2 < 3;", 1, 11);
        Due.fault("tide 1 < 2 or;", 1, 13);
        Due.fault("tide 1 < 2 and or;", 1, 15);
        Due.fault("tide (1 < 2);", 1, 8);
        Due.fault("tide 1 < not 2 < 3;", 1, 9);
        Due.fault("tide not (1) < 2;", 0, 0);
        Due.fault("tide not not 1 = 2 and not 2 # 3 or 1 > 0;", 0, 0);
        Due.fault("tide not;", 1, 8);
        // one clause of each kind, in any order
        Due.fault("tide 1<2; draught 2; speed 3;", 0, 0);
        Due.fault("draught 1; draught", 4, 11);
        Due.fault("tide 1<2; speed 1; tide 1<2;", 4, 19);
        Due.fault("tide 1<2; draught 2; speed 3; speed", 4, 30);
        Due.fault("tide 1<2; draught 2; speed 3; 5", 1, 30);
        // the first as tokens are come to
        Due.fault("speed fast; speed", 5, 6);
        Due.fault("speed 10000 !", 2, 6);
        Due.fault("speed 1 ! 10000", 1, 8);
        // names
        for (String name : new String[] {"hour", "weight", "sail", "wind", "last", "place", "lane", "fast"}) {
            boolean everywhere = name.equals("hour") || name.equals("weight");
            Due.fault("speed 1+" + name + ";", name.equals("fast") ? 5 : 0, 8);
            Due.fault("draught " + name + ";", everywhere || name.equals("fast") ? 0 : 5, 8);
            Due.fault("tide 1<" + name + ";", everywhere || name.equals("place") ? 0 : 5, 7);
        }
        Due.fault("speed or;", 1, 6);
        Due.fault("speed foo;", 1, 6);
    }

    private static void nesting() {
        Due.fault("speed ((((((((1))))))));", 0, 0);
        Due.fault("speed (((((((((1)))))))));", 3, 14);
        Due.fault("speed --------1;", 0, 0);
        Due.fault("speed ---------1;", 3, 14);
        Due.fault("speed 1---------1;", 0, 0);
        Due.fault("speed 1----------1;", 3, 16);
        Due.fault("speed (-(-(-(-1))))*(-(-(-(-1))));", 0, 0);
        Due.fault("speed (-(-(-(-(1)))));", 3, 14);
        Due.fault("speed (-(-(-(--1))));", 3, 14);
        Due.fault("speed -1+-1+-1+-1+-1+-1+-1+-1+-1+-1;", 0, 0);
        Due.fault("speed (1)+(1)+(1)+(1)+(1)+(1)+(1)+(1)+(1);", 0, 0);
        Due.fault("tide not not not not not not not not 1<2;", 0, 0);
        Due.fault("tide not not not not not not not not not 1<2;", 3, 37);
        Due.fault("tide not not not not not not not not (1)<2;", 3, 37);
        Due.fault("tide not not not not not not not not 1<-2;", 3, 39);
        Due.fault("tide not not not not (-(-1))<2;", 0, 0);
        Due.fault("tide not not not not not not not not 1<2 and not (1) < 3;", 0, 0);
        Due.fault("tide 1<2 or not not not not not not not (1)<(2);", 0, 0);
        Due.fault("tide 1<2 or not not not not not not not (1)<((2));", 3, 45);
        // where the ninth can't stand at all, that is the lesser fault
        Due.fault("speed ((((((((1(", 1, 15);
        Due.fault("speed ((((((((not", 1, 14);
    }

    /** What a sum comes to: told by a tide that is so if it is that, and by one that is so if not. */
    private static void sum(String sum, int value) {
        ShipUnstopped x = new ShipUnstopped(12);
        String at = value < 0 ? "-" + -value : "" + value;
        Due.rule(x, "tide " + sum + "=" + at + ";");
        x.rocks(2);
        Due.is(sum, x.becomes(1, 4, 1), Due.state(0, 1, 1, 1));
        Due.rule(x, "tide " + sum + "#" + at + ";");
        Due.is(sum + " unlike", x.becomes(1, 4, 1), Due.ground(0, 1));
    }

    private static void sums() {
        sum("1+2*3", 7);
        sum("10-3-2", 5);
        sum("10-(3-2)", 9);
        sum("100/7/2", 7);
        sum("7/2*2", 6);
        sum("2*7/2", 7);
        sum("-7/2", -3);
        sum("7/-2", -3);
        sum("(0-7)/2", -3);
        sum("-2*-3", 6);
        sum("1--1", 2);
        sum("1---1", 0);
        sum("5/0", 0);
        sum("-5/0+1", 1);
        sum("5/(hour-hour)", 0);
        sum("9999*9999/1000", 1000);
        sum("9999*9999*9999/1000", 1000);
        sum("-9999*9999/1000", -1000);
        sum("(9999*9999-1)/9999", 100);
        sum("(9999*9999+5)/1000-(9999*101)/1000", 0);
        sum("(9999*9999-9999)/9-9999*11", 11);
        sum("(0-9999*9999-9999)/1000", -1000);
        sum("9999*9999-9999*100-100", 0);
        sum("9999*100+100+1-9999*100", 100);
        sum("-9999*9999+9999*100+100", 0);
        sum("1+2*(1+2*(1+2*(1+2*(1+2*(1+2*(1+2*(1+2*(1+2*1))))))))", 1023);
        sum("1-2*(1-2*(1-2*(1-2*(1-2*(1-2*(1-2*(1-2*(1-2*1))))))))", -341);
        sum("(0-9999*9999+1)/9999", -100);
    }

    private static void ask(String ask, boolean so) {
        ShipUnstopped x = new ShipUnstopped(4);
        Due.rule(x, "tide " + ask + ";");
        x.rocks(2);
        Due.is(ask, x.becomes(1, 4, 1), so ? Due.state(0, 1, 1, 1) : Due.ground(0, 1));
    }

    private static void asks() {
        String[] signs = {"<", "<=", ">", ">=", "=", "#"};
        for (int a = 1; a <= 3; a++) {
            boolean[] so = {a < 2, a <= 2, a > 2, a >= 2, a == 2, a != 2};
            for (int i = 0; i < 6; i++) {
                ask(a + signs[i] + "2", so[i]);
                ask("not " + a + signs[i] + "2", !so[i]);
                ask("not not " + a + signs[i] + "2", so[i]);
            }
        }
        for (int bits = 0; bits < 8; bits++) {
            boolean a = (bits & 1) != 0;
            boolean b = (bits & 2) != 0;
            boolean c = (bits & 4) != 0;
            String p = a ? "1=1" : "1=2";
            String q = b ? "1=1" : "1=2";
            String r = c ? "1=1" : "1=2";
            ask(p + " or " + q + " and " + r, a || b && c);
            ask(p + " and " + q + " or " + r, a && b || c);
            ask("not " + p + " and " + q + " or not " + r, !a && b || !c);
            ask(p + " or " + q + " or " + r, a || b || c);
            ask(p + " and " + q + " and " + r, a && b && c);
        }
    }

    /** As many operands waiting as there can be. */
    private static void deepest() {
        StringBuilder sum = new StringBuilder("3+2*1");
        int value = 5;
        for (int i = 0; i < 8; i++) {
            sum.insert(0, "3+2*(").append(")");
            value = 3 + 2 * value;
        }
        ask("1=2 or 1=1 and " + value + "=" + sum, true);
        ask("1=2 or 1=1 and " + value + "#" + sum, false);
    }

    private static void namesOfSpeed() {
        ShipUnstopped x = new ShipUnstopped(12);
        Due.rule(x, "speed sail;");
        int[] clamped = {1, 1, 2, 3, 4, 4, 4};
        for (int i = 0; i < 4; i++) {
            int v = clamped[i];
            Due.is("sail " + i, x.becomes(Due.state(1, 2, 3, 4), Due.choice(0, i), 2), Due.state(1, 2 + v, 4, v));
        }
        Due.rule(x, "speed wind+1;");
        for (int i = 0; i < 4; i++) {
            Due.is("wind " + i, x.becomes(Due.state(1, 2, 3, 4), Due.choice(-1, 2), i), Due.state(0, 3 + i, 4, i + 1));
        }
        Due.rule(x, "speed last*hour-place;");
        Due.is("last, hour, place", x.becomes(Due.state(1, 3, 3, 2), 5, 0), Due.state(1, 6, 4, 3));
        Due.is("the same, too low", x.becomes(Due.state(1, 11, 3, 3), 5, 0), Due.state(1, 0, 4, 1));
        Due.is("the same, too high", x.becomes(Due.state(1, 0, 7, 3), 5, 0), Due.state(1, 4, 0, 4));
        // the lane is the new one
        Due.rule(x, "speed lane*2+weight/50;");
        Due.is("lane 1 to 2", x.becomes(Due.state(1, 3, 3, 2), Due.choice(1, 0), 0), Due.state(2, 7, 4, 4));
        Due.is("lane 1", x.becomes(Due.state(1, 3, 3, 2), Due.choice(0, 0), 0), Due.state(1, 5, 4, 2));
        Due.is("lane 1 to 0", x.becomes(Due.state(1, 3, 3, 2), Due.choice(-1, 0), 0), Due.state(0, 4, 4, 1));
        x.weigh(50);
        Due.is("weight", x.becomes(Due.state(1, 3, 3, 2), Due.choice(0, 0), 0), Due.state(1, 6, 4, 3));
    }

    private static void namesOfDraughtAndTide() {
        ShipUnstopped x = new ShipUnstopped(12);
        Due.rule(x, "speed sail+1; draught fast*2+hour-weight;");
        for (int place = 0; place < 12; place++) {
            x.depth(0, place, 5);
        }
        Due.is("draught 4", x.becomes(Due.state(0, 0, 0, 1), Due.choice(0, 1), 1), Due.state(0, 2, 1, 2));
        Due.is("draught 5", x.becomes(Due.state(0, 0, 1, 1), Due.choice(0, 1), 1), Due.state(0, 2, 2, 2));
        Due.is("draught 6", x.becomes(Due.state(0, 0, 2, 1), Due.choice(0, 1), 1), Due.ground(0, 1));
        x.weigh(1);
        Due.is("draught 5 by weight", x.becomes(Due.state(0, 0, 2, 1), Due.choice(0, 1), 1), Due.state(0, 2, 3, 2));
        x.depth(0, 2, 0);
        x.weigh(99);
        Due.is("draught below 0", x.becomes(Due.state(0, 0, 2, 1), Due.choice(0, 1), 1), Due.state(0, 2, 3, 2));
        Due.rule(x, "draught 100;");
        x.depth(0, 1, 9);
        x.depth(0, 2, 8);
        Due.is("draught 9 at most", x.becomes(Due.state(0, 0, 2, 1), 4, 1), Due.state(0, 1, 3, 1));
        Due.is("draught 9 on 8", x.becomes(Due.state(0, 1, 2, 1), 4, 1), Due.ground(0, 2));
        // the place of tide is the one that it comes to
        Due.rule(x, "speed 4; tide place#3 or hour=5 and weight=7;");
        x.rocks(0xFFF);
        Due.is("tide by place", x.becomes(Due.state(2, 1, 2, 1), 4, 1), Due.ground(2, 3));
        Due.is("tide by place, setting out of it", x.becomes(Due.state(2, 3, 2, 1), 4, 1), Due.state(2, 7, 3, 4));
        x.weigh(7);
        Due.is("tide by hour and weight", x.becomes(Due.state(2, 1, 5, 1), 8, 1), -1);
        Due.is("tide by hour and weight", x.becomes(Due.state(2, 1, 5, 1), 4, 1), Due.state(2, 5, 6, 4));
        Due.is("tide by hour", x.becomes(Due.state(2, 1, 6, 1), 4, 1), Due.ground(2, 3));
    }
}
