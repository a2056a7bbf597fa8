import java.util.ArrayList;
import java.util.List;
import java.util.NoSuchElementException;
import java.util.Random;

/** Random runs of calls, answered by RibLoom and by the Model: each answer must be the same. */
public final class ModelTest {
    /** One call of the face, on either of them. */
    private interface Call {
        int answer();
    }

    private static final String[] CALLS = {"count", "rib", "verse", "sail", "skill", "days", "sell", "shore",
        "unpick", "teach", "undo", "then", "later", "gone", "done", "widest", "fall", "toTell", "missed",
        "between", "order", "dating", "before", "strongest", "span", "mirrored", "lost", "pace", "both", "see",
        "strong", "look", "forget", "storms", "game", "years", "image", "restore", "loom", "all"};
    private static final String[] WORDS = {"rib", "jaw", "clans", "verse", "rots", "weaves", "not", "and", "or",
        "strength", "place", "beside", "woven", "day", "skill", "left", "x", "ribs"};
    private static final String[] SIGNS = {";", "(", ")", "+", "-", "*", "/", "<", "="};

    private final Random random;
    private final RibLoom loom = new RibLoom();
    private final Model model = new Model();
    private final List<String> run = new ArrayList<>();
    private int wrong = 0;

    private ModelTest(long seed) {
        random = new Random(seed);
    }

    public static void main(String[] args) {
        int runs = args.length > 0 ? Integer.parseInt(args[0]) : 100;
        long first = args.length > 1 ? Long.parseLong(args[1]) : 1;
        int wrong = 0;
        for (long seed = first; seed < first + runs && wrong < 5; seed++) {
            wrong += new ModelTest(seed).oneRun();
        }
        for (long seed = first; seed < first + 20L * runs && wrong < 5; seed++) {
            wrong += new ModelTest(seed).manyTexts();
        }
        System.out.println(wrong == 0 ? "ModelTest: all answers are as due" : "ModelTest: answers are not as due");
        if (wrong != 0) {
            System.exit(1);
        }
    }

    private int oneRun() {
        for (int i = 0; i < 3 && wrong == 0; i++) {
            tell(text());
            for (int j = 0; j < 100 && wrong == 0; j++) {
                oneCall(CALLS[random.nextInt(CALLS.length)]);
            }
        }
        return wrong;
    }

    private int manyTexts() {
        for (int i = 0; i < 5 && wrong == 0; i++) {
            tell(random.nextBoolean() ? spoilt(text()) : tokens());
        }
        return wrong;
    }

    // ---- texts ----

    private int upTo(int most) {
        return random.nextInt(most + 1);
    }

    private boolean oneIn(int many) {
        return random.nextInt(many) == 0;
    }

    private String text() {
        StringBuilder s = new StringBuilder();
        int ribs = oneIn(12) ? 0 : oneIn(3) ? 12 : upTo(12);
        int weak = oneIn(3) ? 99 : 12;
        for (int i = 0; i < ribs; i++) {
            s.append(oneIn(6) ? "jaw " : "rib ").append(oneIn(9) ? 0 : upTo(weak)).append(';');
        }
        int verses = oneIn(8) ? 0 : upTo(8);
        for (int i = 0; i < verses; i++) {
            s.append("verse ").append(upTo(oneIn(2) ? 4095 : 40)).append(";\n");
        }
        if (oneIn(2)) {
            s.append("clans ").append(upTo(9)).append(' ').append(upTo(9)).append(';');
        }
        if (oneIn(2)) {
            s.append("rots ").append(expr(true, 0)).append(";");
        }
        if (oneIn(2)) {
            s.append("weaves ").append(expr(false, 0)).append(";");
        }
        return s.length() > 690 ? "rib 5;rib 6;" : s.toString();
    }

    private String expr(boolean rots, int depth) {
        String[] values = rots ? new String[] {"strength", "place", "beside", "woven", "day"}
            : new String[] {"skill", "strength", "place", "left", "day"};
        StringBuilder s = new StringBuilder();
        int parts = 1 + upTo(depth < 2 ? 4 : 1);
        boolean tested = false;
        boolean notFits = true;
        for (int i = 0; i < parts; i++) {
            for (int n = upTo(2); notFits && oneIn(4) && n >= 0; n--) {
                s.append("not ");
            }
            if (depth < 5 && oneIn(3)) {
                s.append('(').append(expr(rots, depth + 1)).append(')');
            } else {
                s.append(oneIn(2) ? "" + upTo(oneIn(4) ? 9999 : 9) : values[random.nextInt(5)]);
            }
            if (i < parts - 1) {
                String[] all = {"+", "-", "*", "/", " and ", " or ", "<", "="};
                int op = random.nextInt(tested ? 6 : 8);
                s.append(' ').append(all[op]).append(' ');
                notFits = op == 4 || op == 5;
                tested = op >= 6 || tested && !notFits;
            }
        }
        return s.toString();
    }

    private String spoilt(String text) {
        StringBuilder s = new StringBuilder(text.isEmpty() ? "rots 1;" : text);
        for (int i = upTo(2); i >= 0; i--) {
            int at = random.nextInt(s.length());
            switch (random.nextInt(6)) {
                case 0 -> s.deleteCharAt(at);
                case 1 -> s.insert(at, (char) (oneIn(2) ? random.nextInt(256) : 32 + random.nextInt(96)));
                case 2 -> s.insert(at, " " + WORDS[random.nextInt(WORDS.length)] + " ");
                case 3 -> s.insert(at, SIGNS[random.nextInt(SIGNS.length)]);
                case 4 -> s.insert(at, " " + random.nextInt(20000) + " ");
                default -> s.setLength(at);
            }
            if (s.length() == 0) {
                s.append(' ');
            }
        }
        s.setLength(Math.min(s.length(), 700));
        return s.toString();
    }

    private String tokens() {
        StringBuilder s = new StringBuilder(oneIn(2) ? "rots " : "weaves ");
        int nest = oneIn(2) ? upTo(8) : 0;
        int nots = oneIn(3) ? upTo(8) : 0;
        s.append("( ".repeat(nest)).append("not ".repeat(nots));
        for (int i = upTo(12); i > 0; i--) {
            switch (random.nextInt(3)) {
                case 0 -> s.append(WORDS[random.nextInt(WORDS.length)]).append(' ');
                case 1 -> s.append(SIGNS[random.nextInt(SIGNS.length)]).append(' ');
                default -> s.append(oneIn(9) ? "12345" : "" + random.nextInt(50)).append(' ');
            }
        }
        return s.append(")".repeat(upTo(nest))).append(';').toString();
    }

    // ---- calls ----

    private void tell(String text) {
        StringBuilder s = new StringBuilder(text);
        while (s.length() % 20 != 0) {
            s.append((char) (oneIn(2) ? 32 : 10));
        }
        for (int i = 0; i < s.length(); i += 20) {
            int[] n = new int[5];
            for (int j = 0; j < 20; j++) {
                n[j / 4] = n[j / 4] << 8 | s.charAt(i + j);
            }
            same("feed", () -> loom.feed(n[0], n[1], n[2], n[3], n[4]), () -> model.feed(n));
        }
        int many = oneIn(30) ? upTo(s.length() + 2) - 1 : text.length();
        String name = "loom(" + many + ") of " + text.replace('\n', ' ');
        same(name, () -> loom.loom(many), () -> model.loom(many));
        same("fault()", loom::fault, model::fault);
    }

    private static String answer(Call call) {
        try {
            return "" + call.answer();
        } catch (NoSuchElementException | IllegalArgumentException e) {
            return e.getClass().getSimpleName();
        }
    }

    private void same(String name, Call got, Call due) {
        String a = answer(got);
        String b = answer(due);
        run.add(name + " = " + a);
        if (!a.equals(b) && wrong == 0) {
            wrong++;
            System.out.println(String.join("\n", run.subList(Math.max(0, run.size() - 60), run.size())));
            System.out.println("    due is " + b);
        }
    }

    private int some(int most) {
        return oneIn(15) ? -1 : upTo(oneIn(15) ? most + 1 : most);
    }

    private void oneCall(String name) {
        int rib = some(Math.max(0, loom.count(0) - 1));
        int verse = some(Math.max(0, loom.count(1) - 1));
        int other = some(Math.max(0, loom.count(1) - 1));
        int days = some(oneIn(3) ? 60 : 8);
        int what = some(2);
        int set = oneIn(3) ? some((1 << loom.count(0)) - 1) : knownGaps();
        int set2 = oneIn(3) ? some((1 << loom.count(0)) - 1) : knownGaps();
        int clan = some(1);
        boolean yes = random.nextBoolean();
        if (oneIn(3) && twoNumbers(name, rib, verse, other, days, what)) {
            return;
        }
        switch (name) {
            case "count" -> { int w = some(15); same("count " + w, () -> loom.count(w), () -> model.count(w)); }
            case "sail" -> { int i = some(3); same("sail " + i + " " + what, () -> loom.sail(i, what), () -> model.sail(i, what)); }
            case "skill" -> same("skill " + clan, () -> loom.skill(clan), () -> model.skill(clan));
            case "days" -> { int m = some(oneIn(3) ? 20 : 3); same("days " + m, () -> loom.days(m), () -> model.days(m)); }
            case "sell" -> { if (oneIn(2)) { same("sell " + rib, () -> loom.sell(rib), () -> model.sell(rib)); } }
            case "shore" -> { int m = some(30); same("shore " + rib + " " + m, () -> loom.shore(rib, m), () -> model.shore(rib, m)); }
            case "unpick" -> same("unpick", loom::unpick, model::unpick);
            case "teach" -> { int s = some(9); same("teach " + clan + " " + s, () -> loom.teach(clan, s), () -> model.teach(clan, s)); }
            case "undo" -> { for (int i = oneIn(5) ? 45 : 1; i > 0; i--) { same("undo", loom::undo, model::undo); } }
            case "gone" -> same("gone " + rib, () -> loom.gone(rib), () -> model.gone(rib));
            case "done" -> same("done " + days + " " + what, () -> loom.done(days, what), () -> model.done(days, what));
            case "widest" -> same("widest", loom::widest, model::widest);
            case "fall" -> same("fall " + what, () -> loom.fall(what), () -> model.fall(what));
            case "toTell" -> same("toTell", loom::toTell, model::toTell);
            case "missed" -> same("missed", loom::missed, model::missed);
            case "order" -> same("order " + verse, () -> loom.order(verse), () -> model.order(verse));
            case "dating" -> same("dating " + set + " " + what, () -> loom.dating(set, what), () -> model.dating(set, what));
            case "before" -> same("before " + set + " " + set2, () -> loom.before(set, set2), () -> model.before(set, set2));
            case "strongest" -> same("strongest " + days, () -> loom.strongest(days), () -> model.strongest(days));
            case "span" -> same("span " + what, () -> loom.span(what), () -> model.span(what));
            case "mirrored" -> same("mirrored " + verse, () -> loom.mirrored(verse), () -> model.mirrored(verse));
            case "pace" -> same("pace " + clan, () -> loom.pace(clan), () -> model.pace(clan));
            case "see" -> { int d = some(20); same("see " + rib + " " + d + " " + yes, () -> loom.see(rib, d, yes), () -> model.see(rib, d, yes)); }
            case "strong" -> same("strong " + what, () -> loom.strong(what), () -> model.strong(what));
            case "look" -> same("look " + what, () -> loom.look(what), () -> model.look(what));
            case "forget" -> { if (oneIn(4)) { loom.forget(); model.forget(); run.add("forget()"); } }
            case "storms" -> { int d = 1 + some(4); int t = some(10); same("storms " + rib + " " + d + " " + t, () -> loom.storms(rib, d, t), () -> model.storms(rib, d, t)); }
            case "game" -> same("game " + what, () -> loom.game(what), () -> model.game(what));
            case "years" -> { int s = random.nextInt(); same("years " + s + " " + days + " " + what, () -> loom.years(s, days, what), () -> model.years(s, days, what)); }
            case "image" -> { if (oneIn(2)) { loom.image(); model.image(); run.add("image()"); } }
            case "restore" -> same("restore", () -> loom.restore() ? 1 : 0, () -> model.restore() ? 1 : 0);
            case "loom" -> { if (oneIn(9)) { tell(spoilt(text())); } }
            case "all" -> wholeState();
            default -> twoNumbers(name, rib, verse, other, days, what);
        }
    }

    private boolean twoNumbers(String name, int rib, int verse, int other, int days, int what) {
        switch (name) {
            case "rib" -> same("rib " + rib + " " + what, () -> loom.rib(rib, what), () -> model.rib(rib, what));
            case "verse" -> { int w = some(3); same("verse " + verse + " " + w, () -> loom.verse(verse, w), () -> model.verse(verse, w)); }
            case "then" -> same("then " + rib + " " + days, () -> loom.then(rib, days), () -> model.then(rib, days));
            case "later" -> { int w = some(3); same("later " + days + " " + w, () -> loom.later(days, w), () -> model.later(days, w)); }
            case "between" -> same("between " + verse + " " + other, () -> loom.between(verse, other), () -> model.between(verse, other));
            case "both" -> same("both " + verse + " " + other, () -> loom.both(verse, other), () -> model.both(verse, other));
            case "lost" -> same("lost " + days + " " + what, () -> loom.lost(days, what), () -> model.lost(days, what));
            default -> { return false; }
        }
        return true;
    }

    private int knownGaps() {
        int gaps = loom.done(1 + random.nextInt(20), 1);
        return Math.max(0, gaps);
    }

    private void wholeState() {
        for (int w = -1; w <= 16; w++) {
            int what = w;
            same("count " + what, () -> loom.count(what), () -> model.count(what));
        }
        for (int r = 0; r < loom.count(0); r++) {
            int rib = r;
            for (int w = 0; w <= 3; w++) {
                int what = w;
                same("rib " + rib + " " + what, () -> loom.rib(rib, what), () -> model.rib(rib, what));
            }
        }
        for (int i = 0; i <= 9; i++) {
            int k = i;
            same("sail " + k + " 0", () -> loom.sail(k, 0), () -> model.sail(k, 0));
            same("sail " + k + " 1", () -> loom.sail(k, 1), () -> model.sail(k, 1));
        }
    }
}
