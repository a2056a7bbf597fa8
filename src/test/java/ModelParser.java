import java.util.List;

/** Reads a LOOM for the Model: one method for each line of the grammar. */
final class ModelParser {
    private static final List<String> ROTS = List.of("strength", "place", "beside", "woven", "day");
    private static final List<String> WEAVES = List.of("skill", "strength", "place", "left", "day");

    private final String text;
    private String token;
    private int place;
    private int next;
    private boolean clans;

    ModelParser(String text) throws Model.Fault {
        this.text = text;
        step();
    }

    private static boolean in(char c, char from, char to) {
        return c >= from && c <= to;
    }

    /** The token is "" at the end and "?" where there is none. */
    private void step() throws Model.Fault {
        while (next < text.length() && (text.charAt(next) == 32 || text.charAt(next) == 10)) {
            next++;
        }
        place = next;
        if (next == text.length()) {
            token = "";
            return;
        }
        char c = text.charAt(next);
        next++;
        if (in(c, 'a', 'z')) {
            while (next < text.length() && in(text.charAt(next), 'a', 'z')) {
                next++;
            }
        } else if (in(c, '0', '9')) {
            while (next < text.length() && in(text.charAt(next), '0', '9')) {
                next++;
            }
        } else if (";()+-*/<=".indexOf(c) < 0) {
            token = "?";
            return;
        }
        token = text.substring(place, next);
    }

    private boolean isWord() {
        return !token.isEmpty() && in(token.charAt(0), 'a', 'z');
    }

    private boolean isNumber() {
        return !token.isEmpty() && in(token.charAt(0), '0', '9');
    }

    private void faultIf(boolean wrong, int code) throws Model.Fault {
        if (wrong) {
            throw new Model.Fault(code, place);
        }
    }

    private int number(int most) throws Model.Fault {
        faultIf(!isNumber(), 1);
        faultIf(token.length() > 4, 2);
        int n = Integer.parseInt(token);
        faultIf(n > most, 2);
        step();
        return n;
    }

    Model.Told loom() throws Model.Fault {
        Model.Told told = new Model.Told();
        while (!token.isEmpty()) {
            switch (token) {
                case "rib", "jaw" -> {
                    faultIf(told.strengths.size() == 12, 2);
                    told.jaws.add(token.equals("jaw"));
                    step();
                    told.strengths.add(number(99));
                }
                case "clans" -> {
                    faultIf(clans, 5);
                    clans = true;
                    step();
                    told.skills[0] = number(9);
                    told.skills[1] = number(9);
                }
                case "verse" -> {
                    faultIf(told.verses.size() == 8, 2);
                    step();
                    told.verses.add(number(4095));
                }
                case "rots" -> {
                    faultIf(told.rots != null, 5);
                    step();
                    told.rots = expr(0, ROTS);
                }
                case "weaves" -> {
                    faultIf(told.weaves != null, 5);
                    step();
                    told.weaves = expr(0, WEAVES);
                }
                default -> faultIf(true, 1);
            }
            faultIf(!token.equals(";"), 1);
            step();
        }
        return told;
    }

    private Model.Expr expr(int within, List<String> values) throws Model.Fault {
        faultIf(!isNumber() && !isWord() && !token.equals("("), 1);
        faultIf(within >= 6, 2);
        Model.Expr left = and(within, values);
        while (token.equals("or")) {
            step();
            Model.Expr a = left;
            Model.Expr b = and(within, values);
            left = v -> (a.of(v) != 0 | b.of(v) != 0) ? 1 : 0;
        }
        return left;
    }

    private Model.Expr and(int within, List<String> values) throws Model.Fault {
        Model.Expr left = not(within, values, 0);
        while (token.equals("and")) {
            step();
            Model.Expr a = left;
            Model.Expr b = not(within, values, 0);
            left = v -> (a.of(v) != 0 & b.of(v) != 0) ? 1 : 0;
        }
        return left;
    }

    private Model.Expr not(int within, List<String> values, int nots) throws Model.Fault {
        if (token.equals("not")) {
            faultIf(nots == 6, 2);
            step();
            Model.Expr a = not(within, values, nots + 1);
            return v -> a.of(v) == 0 ? 1 : 0;
        }
        Model.Expr a = sum(within, values);
        if (token.equals("<")) {
            step();
            Model.Expr b = sum(within, values);
            return v -> a.of(v) < b.of(v) ? 1 : 0;
        }
        if (token.equals("=")) {
            step();
            Model.Expr b = sum(within, values);
            return v -> a.of(v) == b.of(v) ? 1 : 0;
        }
        return a;
    }

    private Model.Expr sum(int within, List<String> values) throws Model.Fault {
        Model.Expr left = product(within, values);
        while (token.equals("+") || token.equals("-")) {
            int sign = token.equals("+") ? 1 : -1;
            step();
            Model.Expr a = left;
            Model.Expr b = product(within, values);
            left = v -> a.of(v) + sign * b.of(v);
        }
        return left;
    }

    private Model.Expr product(int within, List<String> values) throws Model.Fault {
        Model.Expr left = part(within, values);
        while (token.equals("*") || token.equals("/")) {
            boolean times = token.equals("*");
            step();
            Model.Expr a = left;
            Model.Expr b = part(within, values);
            left = v -> times ? a.of(v) * b.of(v) : b.of(v) == 0 ? 0 : a.of(v) / b.of(v);
        }
        return left;
    }

    private Model.Expr part(int within, List<String> values) throws Model.Fault {
        if (token.equals("(")) {
            step();
            Model.Expr inner = expr(within + 1, values);
            faultIf(!token.equals(")"), 1);
            step();
            return inner;
        }
        if (isWord()) {
            faultIf(!values.contains(token), 3);
            String name = token;
            step();
            return v -> v.get(name);
        }
        int n = number(9999);
        return v -> n;
    }
}
