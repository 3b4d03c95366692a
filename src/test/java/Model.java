import java.util.ArrayList;
import java.util.Arrays;
import java.util.List;

/** A second, plain reading of the document, to hold the class against: nothing is kept from call to call. */
final class Model {
    /** All that an image holds. */
    private static final class All {
        int n;
        int[][] depth = new int[3][12];
        int rocks = 0;
        int[] winds = new int[8];
        int weight = 0;
        int lane = 0;
        int place = 0;
        int hour = 0;
        int last = 1;
        int days = 0;
        int laps = 0;
        boolean afloat = true;
        List<Law> texts = new ArrayList<>();
        int by = -1;
        List<Integer> course = new ArrayList<>();
        List<int[]> past = new ArrayList<>();
        List<Integer> goods = new ArrayList<>();
        List<int[]> leaps = new ArrayList<>();
        int aboard = 0;

        All copy() {
            All c = new All();
            c.n = n;
            for (int i = 0; i < 3; i++) {
                c.depth[i] = depth[i].clone();
            }
            c.rocks = rocks;
            c.winds = winds.clone();
            c.weight = weight;
            c.lane = lane;
            c.place = place;
            c.hour = hour;
            c.last = last;
            c.days = days;
            c.laps = laps;
            c.afloat = afloat;
            c.texts = new ArrayList<>(texts);
            c.by = by;
            c.course = new ArrayList<>(course);
            c.past = new ArrayList<>(past);
            c.goods = new ArrayList<>(goods);
            c.leaps = new ArrayList<>(leaps);
            c.aboard = aboard;
            return c;
        }
    }

    private static final Law NO_LAW = new Law("");
    private All all = new All();
    private All image;
    private String tape = "";
    private Law read = null;
    private int[] outcomes = null;

    Model(int places) {
        all.n = places < 4 ? 4 : places > 12 ? 12 : places;
        for (int[] lane : all.depth) {
            Arrays.fill(lane, 9);
        }
        Arrays.fill(all.winds, 2);
        image = all.copy();
    }

    boolean depth(int lane, int place, int d) {
        if (lane < 0 || lane > 2 || place < 0 || place >= all.n || d < 0 || d > 9) {
            return false;
        }
        all.depth[lane][place] = d;
        outcomes = null;
        return true;
    }

    boolean rocks(int set) {
        if (set < 0 || set > (1 << all.n) - 1) {
            return false;
        }
        all.rocks = set;
        outcomes = null;
        return true;
    }

    boolean winds(int hour, int set) {
        if (hour < 0 || hour > 7 || set < 1 || set > 15) {
            return false;
        }
        all.winds[hour] = set;
        return true;
    }

    boolean weigh(int w) {
        if (w < 0 || w > 99) {
            return false;
        }
        all.weight = w;
        outcomes = null;
        return true;
    }

    int feed(int... words) {
        if (tape.length() > 280) {
            return -1;
        }
        for (int word : words) {
            for (int i = 3; i >= 0; i--) {
                tape += (char) (word >> 8 * i & 255);
            }
        }
        return tape.length();
    }

    int end(int n) {
        if (n < 0 || n > tape.length()) {
            return -1;
        }
        tape = tape.substring(0, n);
        return n;
    }

    int text() {
        if (all.texts.size() == 4) {
            return -1;
        }
        read = new Law(tape);
        tape = "";
        if (read.fault != 0) {
            return -1;
        }
        all.texts.add(read);
        return all.texts.size() - 1;
    }

    int fault(int what) {
        if (read == null) {
            return -1;
        }
        return what == 0 ? read.fault : what == 1 ? read.faultAt : -1;
    }

    boolean by(int text) {
        if (text < -1 || text >= all.texts.size()) {
            return false;
        }
        all.by = text;
        outcomes = null;
        return true;
    }

    int becomes(int state, int choice, int wind) {
        if (!state(state) || choice < 0 || choice > 11 || wind < 0 || wind > 3) {
            return -1;
        }
        int lane = state / 480 + choice / 4 - 1;
        if (lane < 0 || lane > 2) {
            return -1;
        }
        Law law = all.by < 0 ? NO_LAW : all.texts.get(all.by);
        int place = state / 40 % 12;
        int hour = state / 5 % 8;
        int speed = law.speed(hour, all.weight, choice % 4, wind, state % 5, place, lane, -1);
        int draught = law.draught(hour, all.weight, -1, -1, -1, -1, -1, speed);
        for (int i = 0; i < speed; i++) {
            place = (place + 1) % all.n;
            boolean rocky = (all.rocks >> place & 1) == 1 && !law.tide(hour, all.weight, -1, -1, -1, place, -1, -1);
            if (all.depth[lane][place] < draught || rocky) {
                return 2000 + 12 * lane + place;
            }
        }
        return ((12 * lane + place) * 8 + (hour + 1) % 8) * 5 + speed;
    }

    int go(int choice, int wind) {
        if (!all.afloat || wind < 0 || wind > 3 || (all.winds[all.hour] >> wind & 1) == 0) {
            return -1;
        }
        int then = becomes(ship(0), choice, wind);
        if (then == -1) {
            return -1;
        }
        all.past.add(new int[] {all.lane, all.place, all.hour, all.last, all.days, all.laps});
        if (all.past.size() > 30) {
            all.past.remove(0);
        }
        int to = then >= 2000 ? (then - 2000) % 12 : then / 40 % 12;
        do {
            all.place = (all.place + 1) % all.n;
            if (all.place == 0) {
                all.laps++;
            }
        } while (all.place != to);
        if (then >= 2000) {
            all.afloat = false;
            all.lane = (then - 2000) / 12;
        } else {
            all.lane = then / 480;
            all.hour = (all.hour + 1) % 8;
            if (all.hour == 0) {
                all.days++;
            }
            all.last = then % 5;
        }
        return then;
    }

    int course(int choice) {
        if (choice == -1) {
            all.course.clear();
            return 0;
        }
        if (choice < 0 || choice > 11 || all.course.size() == 24) {
            return -1;
        }
        all.course.add(choice);
        return all.course.size();
    }

    int sail(int seed) {
        if (seed < 0 || seed > 9999) {
            return -1;
        }
        long x = seed * 5 + 3;
        int hours = 0;
        for (int choice : all.course) {
            if (!all.afloat) {
                break;
            }
            List<Integer> blow = windsOf(all.hour);
            int wind = blow.get((int) (x % blow.size()));
            x = (x * 151 + 29) % 30097;
            if (go(choice, wind) == -1) {
                break;
            }
            hours++;
        }
        return hours;
    }

    int undo() {
        if (all.past.isEmpty()) {
            return -1;
        }
        int[] was = all.past.remove(all.past.size() - 1);
        all.lane = was[0];
        all.place = was[1];
        all.hour = was[2];
        all.last = was[3];
        all.days = was[4];
        all.laps = was[5];
        all.afloat = true;
        return all.past.size();
    }

    int ship(int what) {
        return switch (what) {
            case 0 -> ((12 * all.lane + all.place) * 8 + all.hour) * 5 + all.last;
            case 1 -> all.afloat ? 1 : 0;
            case 2 -> all.days;
            case 3 -> all.laps;
            default -> -1;
        };
    }

    int reach(int state, int n, int lane) {
        if (!state(state) || n < 0 || n > 24 || lane < 0 || lane > 2) {
            return -1;
        }
        boolean[] can = new boolean[1440];
        can[state] = true;
        for (int i = 0; i < n; i++) {
            can = anHourOn(can);
        }
        int bits = 0;
        for (int s = 0; s < 1440; s++) {
            if (can[s] && s / 480 == lane) {
                bits |= 1 << s / 40 % 12;
            }
        }
        return bits;
    }

    boolean kept(int state, int n) {
        return state(state) && n >= -1 && n <= 99 && keptFor(n)[state];
    }

    private boolean[] keptFor(int n) {
        boolean[] held = everyState();
        for (int i = 0; n == -1 ? i < 1500 : i < n; i++) {
            boolean[] next = keptOneMore(held);
            if (Arrays.equals(next, held)) {
                break;
            }
            held = next;
        }
        return held;
    }

    int think() {
        boolean[] held = everyState();
        for (int n = 0; ; n++) {
            boolean[] next = keptOneMore(held);
            if (Arrays.equals(next, held)) {
                return n;
            }
            held = next;
        }
    }

    int best(int state) {
        boolean[] held = keptFor(-1);
        if (!state(state) || !held[state]) {
            return -1;
        }
        for (int choice = 0; ; choice++) {
            boolean still = true;
            for (int wind : windsOf(state / 5 % 8)) {
                int then = outcome(state, choice, wind);
                still &= then >= 0 && then < 2000 && held[then];
            }
            if (still) {
                return choice;
            }
        }
    }

    int between(int state, int place, int times, boolean sure) {
        if (!state(state) || place < 0 || place >= all.n || times < 1 || times > 5) {
            return -1;
        }
        // done[j][s]: from s it can come j times more in the hours so far
        boolean[][] done = new boolean[times + 1][1440];
        Arrays.fill(done[0], true);
        for (int hours = 1; hours <= 99; hours++) {
            boolean[][] next = new boolean[times + 1][1440];
            Arrays.fill(next[0], true);
            for (int j = 1; j <= times; j++) {
                for (int s = 0; s < 1440; s++) {
                    next[j][s] = state(s) && (done[j][s] || canCome(done, j, s, place, sure));
                }
            }
            done = next;
            if (done[times][state]) {
                return hours;
            }
        }
        return -1;
    }

    int meet(int state, int place, int hour, int speed) {
        if (!state(state) || place < 0 || place >= all.n || hour < 0 || hour > 48 || speed < 1 || speed > 4) {
            return -1;
        }
        boolean[] can = new boolean[1440];
        can[state] = true;
        for (int i = 1; i <= hour + 8; i++) {
            can = anHourOn(can);
            for (int s = 0; s < 1440 && i >= hour; s++) {
                if (can[s] && s / 40 % 12 == place && s % 5 == speed) {
                    return i;
                }
            }
        }
        return -1;
    }

    int goods(int weight) {
        if (weight == -1) {
            all.goods.clear();
            return 0;
        }
        if (weight < 1 || weight > 99 || all.goods.size() == 12) {
            return -1;
        }
        all.goods.add(weight);
        return all.goods.size();
    }

    int level(int what) {
        int least = 9999;
        int best = 0;
        for (int set = (1 << all.goods.size()) - 1; set >= 0; set--) {
            int right = 0;
            int left = 0;
            for (int i = 0; i < all.goods.size(); i++) {
                if ((set >> i & 1) == 1) {
                    right += all.goods.get(i);
                } else {
                    left += all.goods.get(i);
                }
            }
            if (Math.abs(right - left) <= least) {
                least = Math.abs(right - left);
                best = set;
            }
        }
        return what == 0 ? best : what == 1 ? least : -1;
    }

    int leap(int who, boolean on) {
        if (!all.afloat || who < 0 || who > 9 || all.leaps.size() == 60) {
            return -1;
        }
        boolean isOn = (all.aboard >> who & 1) == 1;
        if (isOn == on) {
            return -1;
        }
        all.aboard = on ? all.aboard | 1 << who : all.aboard & ~(1 << who);
        all.leaps.add(new int[] {who, on ? 1 : 0, all.laps});
        all.past.clear();
        return all.leaps.size();
    }

    int aboard(int lap, boolean whole) {
        if (lap == -1) {
            return all.aboard;
        }
        if (lap < 0 || lap > all.laps) {
            return -1;
        }
        int bits = 0;
        for (int who = 0; who < 10; who++) {
            boolean first = false;
            boolean came = false;
            boolean left = false;
            for (int[] leap : all.leaps) {
                if (leap[0] == who && leap[2] < lap) {
                    first = leap[1] == 1;
                }
                if (leap[0] == who && leap[2] == lap) {
                    came |= leap[1] == 1;
                    left |= leap[1] == 0;
                }
            }
            if (whole ? first && !left : first || came) {
                bits |= 1 << who;
            }
        }
        return bits;
    }

    int image() {
        image = all.copy();
        return all.laps;
    }

    int back() {
        all = image.copy();
        outcomes = null;
        return all.laps;
    }

    int about(int what) {
        int[] first = {all.n, all.rocks, all.weight, all.texts.size(), all.by, all.course.size(), all.past.size(),
            all.goods.size(), all.leaps.size(), tape.length()};
        if (what >= 0 && what <= 9) {
            return first[what];
        }
        if (what >= 10 && what <= 17) {
            return all.winds[what - 10];
        }
        if (what >= 20 && what < 56 && (what - 20) % 12 < all.n) {
            return all.depth[(what - 20) / 12][(what - 20) % 12];
        }
        return -2;
    }

    private boolean canCome(boolean[][] done, int j, int s, int place, boolean sure) {
        for (int choice = 0; choice < 12; choice++) {
            boolean some = false;
            boolean each = true;
            for (int wind : windsOf(s / 5 % 8)) {
                int then = outcome(s, choice, wind);
                boolean so = then >= 0 && then < 2000 && done[passes(s, then, place) ? j - 1 : j][then];
                some |= so;
                each &= so;
            }
            if (sure ? each : some) {
                return true;
            }
        }
        return false;
    }

    private boolean passes(int from, int then, int goal) {
        int place = from / 40 % 12;
        for (int i = 0; i < then % 5; i++) {
            place = (place + 1) % all.n;
            if (place == goal) {
                return true;
            }
        }
        return false;
    }

    private boolean[] anHourOn(boolean[] can) {
        boolean[] next = new boolean[1440];
        for (int s = 0; s < 1440; s++) {
            for (int choice = 0; can[s] && choice < 12; choice++) {
                for (int wind : windsOf(s / 5 % 8)) {
                    int then = outcome(s, choice, wind);
                    if (then >= 0 && then < 2000) {
                        next[then] = true;
                    }
                }
            }
        }
        return next;
    }

    private boolean[] everyState() {
        boolean[] held = new boolean[1440];
        for (int s = 0; s < 1440; s++) {
            held[s] = state(s);
        }
        return held;
    }

    private boolean[] keptOneMore(boolean[] held) {
        boolean[] next = new boolean[1440];
        for (int s = 0; s < 1440; s++) {
            for (int choice = 0; state(s) && choice < 12; choice++) {
                boolean each = true;
                for (int wind : windsOf(s / 5 % 8)) {
                    int then = outcome(s, choice, wind);
                    each &= then >= 0 && then < 2000 && held[then];
                }
                next[s] |= each;
            }
        }
        return next;
    }

    private List<Integer> windsOf(int hour) {
        return WIND_LISTS.get(all.winds[hour]);
    }

    private static final List<List<Integer>> WIND_LISTS = windLists();

    private static List<List<Integer>> windLists() {
        List<List<Integer>> lists = new ArrayList<>();
        for (int set = 0; set < 16; set++) {
            List<Integer> list = new ArrayList<>();
            for (int wind = 0; wind < 4; wind++) {
                if ((set >> wind & 1) == 1) {
                    list.add(wind);
                }
            }
            lists.add(list);
        }
        return lists;
    }

    /** As becomes, kept while the sea and its laws stay as they are. */
    private int outcome(int state, int choice, int wind) {
        if (outcomes == null) {
            outcomes = new int[1440 * 48];
            Arrays.fill(outcomes, -2);
        }
        int at = state * 48 + choice * 4 + wind;
        if (outcomes[at] == -2) {
            outcomes[at] = becomes(state, choice, wind);
        }
        return outcomes[at];
    }

    private boolean state(int s) {
        return s >= 0 && s < 1440 && s % 5 > 0 && s / 40 % 12 < all.n;
    }
}
