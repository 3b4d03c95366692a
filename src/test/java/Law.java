import java.util.ArrayList;
import java.util.List;

/**
 * A text, read another way than the class does: the faults by a table of what may come next and a pile of what
 * is open, the meaning by cutting at the weakest sign.
 */
final class Law {
    private static final List<String> CLAUSES = List.of("speed", "draught", "tide");
    private static final List<String> NAMES = List.of("hour", "weight", "sail", "wind", "last", "place", "lane", "fast");
    private static final List<List<String>> NAMES_OF = List.of(
        List.of("hour", "weight", "sail", "wind", "last", "place", "lane"),
        List.of("hour", "weight", "fast"),
        List.of("hour", "weight", "place"));

    private final List<String> tokens = new ArrayList<>();
    private final List<Integer> starts = new ArrayList<>();
    private final Node[] clauses = new Node[3];
    int fault = 0;
    int faultAt = -1;

    Law(String text) {
        cut(text);
        look();
        for (int i = 0; fault == 0 && i < tokens.size() - 1; ) {
            int to = i;
            while (!tokens.get(to).equals(";")) {
                to++;
            }
            clauses[CLAUSES.indexOf(tokens.get(i))] = node(tokens.subList(i + 1, to));
            i = to + 1;
        }
    }

    /** hour, weight, sail, wind, last, place, lane, fast. */
    int speed(int... names) {
        return clauses[0] == null ? 1 : (int) Math.max(1, Math.min(4, clauses[0].value(names)));
    }

    int draught(int... names) {
        return clauses[1] == null ? 0 : (int) Math.max(0, Math.min(9, clauses[1].value(names)));
    }

    boolean tide(int... names) {
        return clauses[2] == null || clauses[2].value(names) != 0;
    }

    private void cut(String text) {
        int at = 0;
        while (at < text.length()) {
            char c = text.charAt(at);
            int to = at + 1;
            if (c == ' ' || c == '\n') {
                at++;
                continue;
            }
            if (letter(c)) {
                while (to < text.length() && letter(text.charAt(to))) {
                    to++;
                }
            } else if (digit(c)) {
                while (to < text.length() && digit(text.charAt(to))) {
                    to++;
                }
            } else if ((c == '<' || c == '>') && to < text.length() && text.charAt(to) == '=') {
                to++;
            }
            tokens.add(text.substring(at, to));
            starts.add(at);
            at = to;
        }
        tokens.add("");
        starts.add(text.length());
    }

    private void look() {
        List<String> open = new ArrayList<>();
        boolean[] there = new boolean[3];
        int clause = -1;
        boolean compared = false;
        String next = "clause";
        for (int i = 0; i < tokens.size() && fault == 0; i++) {
            String t = tokens.get(i);
            faultAt = starts.get(i);
            boolean inBracket = open.contains("(");
            if (next.equals("clause")) {
                if (t.isEmpty()) {
                    break;
                }
                clause = CLAUSES.indexOf(t);
                if (clause < 0) {
                    fault = 1;
                } else if (there[clause]) {
                    fault = 4;
                } else {
                    there[clause] = true;
                    next = clause == 2 ? "ask" : "one";
                }
            } else if (next.equals("ask") && t.equals("not") || !next.equals("joint") && (t.equals("(") || t.equals("-"))) {
                if (open.size() == 8) {
                    fault = 3;
                }
                open.add(t);
                next = t.equals("not") ? "ask" : "one";
            } else if (!next.equals("joint")) {
                if (!t.isEmpty() && digit(t.charAt(0))) {
                    fault = new java.math.BigInteger(t).bitLength() > 20 || Integer.parseInt(t) > 9999 ? 2 : 0;
                } else if (NAMES.contains(t)) {
                    fault = NAMES_OF.get(clause).contains(t) ? 0 : 5;
                } else {
                    fault = 1;
                }
                next = "joint";
                shutMinuses(open);
            } else if ("+-*/".contains(t) && !t.isEmpty()) {
                next = "one";
            } else if (t.equals(")") && inBracket) {
                open.remove(open.size() - 1);
                shutMinuses(open);
            } else if (sign(t) && clause == 2 && !inBracket && !compared) {
                compared = true;
                next = "one";
            } else if ((t.equals("and") || t.equals("or")) && compared && !inBracket) {
                compared = false;
                open.clear();
                next = "ask";
            } else if (t.equals(";") && !inBracket && (clause != 2 || compared)) {
                compared = false;
                open.clear();
                next = "clause";
            } else {
                fault = 1;
            }
        }
        if (fault == 0) {
            faultAt = -1;
        }
    }

    private static void shutMinuses(List<String> open) {
        while (!open.isEmpty() && open.get(open.size() - 1).equals("-")) {
            open.remove(open.size() - 1);
        }
    }

    private static Node node(List<String> of) {
        for (List<String> signs : List.of(List.of("or"), List.of("and"))) {
            int at = lastOf(of, signs);
            if (at >= 0) {
                return new Node(of.get(at), node(of.subList(0, at)), node(of.subList(at + 1, of.size())));
            }
        }
        if (of.get(0).equals("not")) {
            return new Node("not", node(of.subList(1, of.size())), null);
        }
        for (List<String> signs : List.of(List.of("<", "<=", ">", ">=", "=", "#"), List.of("+", "-"), List.of("*", "/"))) {
            int at = lastOf(of, signs);
            if (at >= 0) {
                return new Node(of.get(at), node(of.subList(0, at)), node(of.subList(at + 1, of.size())));
            }
        }
        if (of.get(0).equals("-")) {
            return new Node("minus", node(of.subList(1, of.size())), null);
        }
        if (of.get(0).equals("(")) {
            return node(of.subList(1, of.size() - 1));
        }
        return new Node(of.get(0), null, null);
    }

    /** The last of these outside brackets that has an operand ahead of it. */
    private static int lastOf(List<String> of, List<String> signs) {
        int brackets = 0;
        for (int i = of.size() - 1; i > 0; i--) {
            String t = of.get(i);
            brackets += t.equals(")") ? 1 : t.equals("(") ? -1 : 0;
            String ahead = of.get(i - 1);
            boolean joins = ahead.equals(")") || digit(ahead.charAt(0)) || NAMES.contains(ahead);
            if (brackets == 0 && joins && signs.contains(t)) {
                return i;
            }
        }
        return -1;
    }

    private static boolean sign(String t) {
        return List.of("<", "<=", ">", ">=", "=", "#").contains(t);
    }

    private static boolean letter(char c) {
        return c >= 'a' && c <= 'z' || c >= 'A' && c <= 'Z';
    }

    private static boolean digit(char c) {
        return c >= '0' && c <= '9';
    }

    private static final class Node {
        private final String sign;
        private final Node a;
        private final Node b;
        private final int name;
        private final int number;

        Node(String sign, Node a, Node b) {
            this.sign = sign;
            this.a = a;
            this.b = b;
            this.name = NAMES.indexOf(sign);
            this.number = digit(sign.charAt(0)) ? Integer.parseInt(sign) : 0;
        }

        long value(int[] names) {
            if (a == null) {
                return name >= 0 ? names[name] : number;
            }
            long x = a.value(names);
            long y = b == null ? 0 : b.value(names);
            long v = switch (sign) {
                case "or" -> x != 0 || y != 0 ? 1 : 0;
                case "and" -> x != 0 && y != 0 ? 1 : 0;
                case "not" -> x == 0 ? 1 : 0;
                case "minus" -> -x;
                case "<" -> x < y ? 1 : 0;
                case "<=" -> x <= y ? 1 : 0;
                case ">" -> x > y ? 1 : 0;
                case ">=" -> x >= y ? 1 : 0;
                case "=" -> x == y ? 1 : 0;
                case "#" -> x != y ? 1 : 0;
                case "+" -> x + y;
                case "-" -> x - y;
                case "*" -> x * y;
                default -> y == 0 ? 0 : x / y;
            };
            return Math.max(-1000000, Math.min(1000000, v));
        }
    }
}
