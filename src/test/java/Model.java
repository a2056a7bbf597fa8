import java.util.ArrayDeque;
import java.util.ArrayList;
import java.util.Arrays;
import java.util.Deque;
import java.util.HashSet;
import java.util.List;
import java.util.Map;
import java.util.NoSuchElementException;
import java.util.Set;
import java.util.TreeMap;

/**
 * The document a second time, written as plainly as the Java library allows and with no thought of
 * speed or room: ModelTest holds RibLoom against it.
 */
final class Model {
    /** An EXPR of the text, over the values that it may name. */
    interface Expr {
        int of(Map<String, Integer> values);
    }

    /** A FAULT of a text. */
    static final class Fault extends Exception {
        private static final long serialVersionUID = 1L;
        final int code;
        final int place;

        Fault(int code, int place) {
            this.code = code;
            this.place = place;
        }
    }

    /** A done sail: behind how many days, its gaps, how many ribs west is past. */
    record Sail(int after, Set<Integer> gaps, int meet, int day) {
    }

    /** What was seen. */
    record Sight(int rib, int days, boolean gone) {
    }

    /** What a text tells. */
    static final class Told {
        final List<Integer> strengths = new ArrayList<>();
        final List<Boolean> jaws = new ArrayList<>();
        final List<Integer> verses = new ArrayList<>();
        int[] skills = {3, 3};
        Expr rots;
        Expr weaves;
    }

    /** What days and acts change. */
    static final class World {
        int[] strength = new int[0];
        int[] skill = {3, 3};
        int west;
        int east;
        int day;
        int sails;
        Set<Integer> gaps = new HashSet<>();
        List<Sail> kept = new ArrayList<>();

        World copy() {
            World w = new World();
            w.strength = strength.clone();
            w.skill = skill.clone();
            w.west = west;
            w.east = east;
            w.day = day;
            w.sails = sails;
            w.gaps = new HashSet<>(gaps);
            w.kept = new ArrayList<>(kept);
            return w;
        }
    }

    /** An image. */
    record Image(World world, List<World> acts, List<Sight> seen, int[] status) {
    }

    private final List<Integer> tape = new ArrayList<>();
    private int faultPlace = -1;
    private Told told = new Told();
    private World world = new World();
    private Deque<World> acts = new ArrayDeque<>();
    private List<Sight> seen = new ArrayList<>();
    private int[] status = new int[3];
    private Image image;

    // ---- the text ----

    int feed(int... numbers) {
        if (tape.size() > 680) {
            return -1;
        }
        for (int number : numbers) {
            for (int i = 3; i >= 0; i--) {
                tape.add((number >> 8 * i) & 255);
            }
        }
        return tape.size();
    }

    int loom(int n) {
        if (n < 0 || n > tape.size()) {
            throw new IllegalArgumentException();
        }
        StringBuilder text = new StringBuilder();
        for (int i = 0; i < n; i++) {
            text.append((char) (int) tape.get(i));
        }
        tape.clear();
        try {
            told = new ModelParser(text.toString()).loom();
        } catch (Fault f) {
            faultPlace = f.place;
            status[0]++;
            return f.code;
        }
        faultPlace = -1;
        world = new World();
        world.strength = told.strengths.stream().mapToInt(x -> x).toArray();
        world.skill = told.skills.clone();
        acts.clear();
        seen.clear();
        image = null;
        return 0;
    }

    int fault() {
        return faultPlace;
    }

    // ---- days ----

    private int ribs() {
        return told.strengths.size();
    }

    private static int kept(int low, int high, int x) {
        return x < low ? low : x > high ? high : x;
    }

    private int rot(World w, int r) {
        boolean has0 = r > 0;
        boolean has1 = r < ribs() - 1;
        if (told.rots == null) {
            return has0 && w.strength[r - 1] == 0 || has1 && w.strength[r + 1] == 0 ? 2 : 1;
        }
        Map<String, Integer> values = new TreeMap<>();
        values.put("strength", w.strength[r]);
        values.put("place", r);
        values.put("beside", (has0 ? w.strength[r - 1] : 0) + (has1 ? w.strength[r + 1] : 0));
        values.put("woven", past(w, r) ? 1 : 0);
        values.put("day", w.day);
        return kept(0, 20, told.rots.of(values));
    }

    private boolean past(World w, int r) {
        return r < w.west || ribs() - 1 - r < w.east;
    }

    /** The places between the clans, as the clan meets them. */
    private List<Integer> way(World w, int clan) {
        List<Integer> way = new ArrayList<>();
        for (int r = 0; r < ribs(); r++) {
            if (!past(w, r)) {
                way.add(clan == 0 ? way.size() : 0, r);
            }
        }
        return way;
    }

    private int weaves(World w, int clan, int rib) {
        if (told.weaves == null) {
            return 1 + w.skill[clan] / 4;
        }
        Map<String, Integer> values = new TreeMap<>();
        values.put("skill", w.skill[clan]);
        values.put("strength", w.strength[rib]);
        values.put("place", rib);
        values.put("left", (int) way(w, clan).stream().filter(r -> w.strength[r] > 0).count());
        values.put("day", w.day);
        return kept(0, 5, told.weaves.of(values));
    }

    private void goBy(World w, int clan, int rib) {
        if (w.strength[rib] == 0) {
            w.gaps.add(rib);
        }
        if (clan == 0) {
            w.west++;
        } else {
            w.east++;
        }
    }

    private void weave(World w, int clan) {
        List<Integer> way = way(w, clan);
        while (!way.isEmpty() && w.strength[way.get(0)] == 0) {
            goBy(w, clan, way.remove(0));
        }
        if (way.isEmpty()) {
            return;
        }
        int many = weaves(w, clan, way.get(0));
        while (many > 0 && !way.isEmpty()) {
            int rib = way.remove(0);
            if (w.strength[rib] > 0) {
                many--;
            }
            goBy(w, clan, rib);
        }
    }

    /** One day; the sail that is done in it, or null. */
    private Sail pass(World w, int after) {
        for (int r = 0; r < ribs(); r++) {
            if (w.strength[r] > 0 && !told.jaws.get(r)) {
                w.strength[r] = Math.max(0, w.strength[r] - rot(w, r));
            }
        }
        weave(w, 0);
        weave(w, 1);
        Sail sail = null;
        if (ribs() > 0 && way(w, 0).isEmpty()) {
            sail = new Sail(after, w.gaps, w.west, w.day);
            w.kept.add(0, sail);
            w.sails++;
            if (w.kept.size() > 9) {
                w.kept.remove(9);
            }
            w.gaps = new HashSet<>();
            w.west = 0;
            w.east = 0;
        }
        w.day++;
        return sail;
    }

    private World ahead(int days, List<Sail> sails) {
        World w = world.copy();
        for (int d = 1; d <= days; d++) {
            Sail s = pass(w, d);
            if (s != null) {
                sails.add(s);
            }
        }
        return w;
    }

    private World ahead(int days) {
        return ahead(days, new ArrayList<>());
    }

    private List<Sail> sails(int days) {
        List<Sail> sails = new ArrayList<>();
        ahead(days, sails);
        return sails;
    }

    private static int bits(Iterable<Integer> set) {
        int bits = 0;
        for (int x : set) {
            bits |= 1 << x;
        }
        return bits;
    }

    private List<Integer> alive(World w) {
        List<Integer> alive = new ArrayList<>();
        for (int r = 0; r < ribs(); r++) {
            if (w.strength[r] != 0) {
                alive.add(r);
            }
        }
        return alive;
    }

    private int goneBits(World w) {
        return (1 << ribs()) - 1 - bits(alive(w));
    }

    /** A verse as it looks on some ribs: a letter each. */
    private String looks(int verse, List<Integer> on) {
        StringBuilder s = new StringBuilder();
        for (int r : on) {
            s.append((told.verses.get(verse) >> r & 1) == 1 ? 'o' : 'u');
        }
        return s.toString();
    }

    private int kinds(List<Integer> on) {
        Set<String> all = new HashSet<>();
        for (int v = 0; v < told.verses.size(); v++) {
            all.add(looks(v, on));
        }
        return all.size();
    }

    private void need(boolean there) {
        if (!there) {
            throw new NoSuchElementException();
        }
    }

    private void needRib(int rib) {
        need(rib >= 0 && rib < ribs());
    }

    private void needVerse(int v) {
        need(v >= 0 && v < told.verses.size());
    }

    private void fit(boolean fits) {
        if (!fits) {
            throw new IllegalArgumentException();
        }
    }

    // ---- what there is ----

    int count(int what) {
        need(what >= 0 && what <= 15);
        int[] all = {ribs(), told.verses.size(), world.day, world.west, world.east, world.sails,
            world.kept.size(), goneBits(world), bits(world.gaps), kinds(alive(world)), acts.size(),
            seen.size(), tape.size(), status[0], status[1], status[2]};
        return all[what];
    }

    int rib(int rib, int what) {
        needRib(rib);
        need(what >= 0 && what <= 3);
        int over = 0;
        for (int v = 0; v < told.verses.size(); v++) {
            over += (told.verses.get(v) >> rib) % 2 == 1 ? 1 << v : 0;
        }
        int[] all = {world.strength[rib], told.jaws.get(rib) ? 1 : 0, past(world, rib) ? 1 : 0, over};
        return all[what];
    }

    int verse(int verse, int what) {
        needVerse(verse);
        need(what >= 0 && what <= 3);
        List<Integer> on = alive(world);
        if (what == 0) {
            return told.verses.get(verse);
        }
        if (what == 1) {
            return told.verses.get(verse) & bits(on);
        }
        String mine = looks(verse, on);
        if (what == 2) {
            int most = 0;
            while (mine.contains("o".repeat(most + 1)) || mine.contains("u".repeat(most + 1))) {
                most++;
            }
            return most;
        }
        int alike = 0;
        for (int v = 0; v < told.verses.size(); v++) {
            alike |= looks(v, on).equals(mine) ? 1 << v : 0;
        }
        return alike;
    }

    int sail(int i, int what) {
        need(i >= 0 && i < world.kept.size());
        need(what == 0 || what == 1);
        return what == 0 ? bits(world.kept.get(i).gaps) : world.kept.get(i).day;
    }

    int skill(int clan) {
        need(clan == 0 || clan == 1);
        return world.skill[clan];
    }

    // ---- acts ----

    private boolean act(boolean allowed) {
        if (!allowed) {
            status[1]++;
            return false;
        }
        acts.addLast(world.copy());
        if (acts.size() > 40) {
            acts.removeFirst();
        }
        return true;
    }

    int days(int many) {
        if (!act(many >= 1 && many <= 20 && world.day + many <= 999)) {
            return -1;
        }
        for (int i = 0; i < many; i++) {
            pass(world, 0);
        }
        return world.day;
    }

    int sell(int rib) {
        needRib(rib);
        int was = world.strength[rib];
        if (!act(was > 0)) {
            return -1;
        }
        world.strength[rib] = 0;
        return was;
    }

    int shore(int rib, int more) {
        needRib(rib);
        if (!act(more >= 1 && more <= 30)) {
            return -1;
        }
        return world.strength[rib] = Math.min(99, world.strength[rib] + more);
    }

    int unpick() {
        int were = world.west + world.east;
        if (!act(were > 0)) {
            return -1;
        }
        world.west = 0;
        world.east = 0;
        world.gaps = new HashSet<>();
        return were;
    }

    int teach(int clan, int skill) {
        need(clan == 0 || clan == 1);
        int was = world.skill[clan];
        if (!act(skill >= 0 && skill <= 9 && skill != was)) {
            return -1;
        }
        world.skill[clan] = skill;
        return was;
    }

    int undo() {
        if (acts.isEmpty()) {
            return -1;
        }
        world = acts.removeLast();
        return acts.size();
    }

    // ---- what will be ----

    int then(int rib, int days) {
        needRib(rib);
        fit(days >= 0 && days <= 60);
        return ahead(days).strength[rib];
    }

    int later(int days, int what) {
        need(what >= 0 && what <= 3);
        fit(days >= 0 && days <= 60);
        World w = ahead(days);
        return new int[] {w.west, w.east, w.sails, goneBits(w)}[what];
    }

    int gone(int rib) {
        needRib(rib);
        for (int d = 0; d <= 60; d++) {
            if (ahead(d).strength[rib] == 0) {
                return d;
            }
        }
        return -1;
    }

    int done(int k, int what) {
        need(what >= 0 && what <= 2);
        fit(k >= 1 && k <= 60);
        List<Sail> sails = sails(60);
        if (sails.size() < k) {
            return -1;
        }
        Sail s = sails.get(k - 1);
        return what == 0 ? s.after : what == 1 ? bits(s.gaps) : s.meet;
    }

    int widest() {
        List<Sail> sails = sails(60);
        for (int many = 0; many <= 12; many++) {
            for (int k = 1; k <= sails.size(); k++) {
                if (sails.get(k - 1).gaps.size() == many) {
                    return k;
                }
            }
        }
        return -1;
    }

    int fall(int what) {
        need(what == 0 || what == 1);
        List<Integer> open = alive(world);
        if (open.isEmpty()) {
            return -1;
        }
        if (what == 0) {
            for (int d = 1; d <= 60; d++) {
                for (int r : open) {
                    if (ahead(d).strength[r] == 0) {
                        return r;
                    }
                }
            }
            return -1;
        }
        for (int d = 60; d >= 0; d--) {
            List<Integer> left = alive(ahead(d));
            if (!left.isEmpty()) {
                return left.get(0);
            }
        }
        throw new AssertionError();
    }

    int dating(int gaps, int what) {
        need(what == 0 || what == 1);
        fit(gaps >= 0 && gaps < 1 << ribs());
        List<Integer> all = sails(60).stream().map(s -> bits(s.gaps)).toList();
        int at = what == 0 ? all.indexOf(gaps) : all.lastIndexOf(gaps);
        return at < 0 ? -1 : at + 1;
    }

    int before(int gaps, int other) {
        fit(gaps >= 0 && gaps < 1 << ribs());
        fit(other >= 0 && other < 1 << ribs());
        int a = dating(gaps, 0);
        int b = dating(other, 0);
        return a > 0 && b > 0 && a < b ? 1 : 0;
    }

    int strongest(int days) {
        fit(days >= 0 && days <= 60);
        World w = ahead(days);
        for (int s = 99; s > 0; s--) {
            for (int r = 0; r < ribs(); r++) {
                if (w.strength[r] == s) {
                    return r;
                }
            }
        }
        return -1;
    }

    int span(int what) {
        need(what == 0 || what == 1);
        for (int many = ribs(); many > 0; many--) {
            for (int first = 0; first + many <= ribs(); first++) {
                boolean whole = true;
                for (int r = first; r < first + many; r++) {
                    whole &= world.strength[r] > 0;
                }
                if (whole) {
                    return what == 0 ? many : first;
                }
            }
        }
        return what == 0 ? 0 : -1;
    }

    int lost(int days, int what) {
        need(what == 0 || what == 1);
        fit(days >= 0 && days <= 60);
        List<Sail> sails = new ArrayList<>();
        World w = ahead(days, sails);
        int rent = 0;
        for (Sail s : sails) {
            rent |= bits(s.gaps);
        }
        return what == 0 ? Arrays.stream(world.strength).sum() - Arrays.stream(w.strength).sum() : rent;
    }

    int pace(int clan) {
        need(clan == 0 || clan == 1);
        for (int r : way(world, clan)) {
            if (world.strength[r] > 0) {
                return weaves(world, clan, r);
            }
        }
        return 0;
    }

    // ---- the song ----

    int toTell() {
        List<Integer> on = alive(world);
        for (int many = 0; many <= on.size(); many++) {
            for (int set = 0; set < 1 << ribs(); set++) {
                List<Integer> some = new ArrayList<>();
                for (int r : on) {
                    if ((set >> r & 1) == 1) {
                        some.add(r);
                    }
                }
                if (bits(some) == set && some.size() == many && kinds(some) == kinds(on)) {
                    return set;
                }
            }
        }
        throw new AssertionError();
    }

    int missed() {
        int best = -1;
        int fewest = 99;
        for (Integer r : alive(world)) {
            List<Integer> rest = alive(world);
            rest.remove(r);
            if (kinds(rest) < fewest) {
                fewest = kinds(rest);
                best = r;
            }
        }
        return best;
    }

    int between(int verse, int other) {
        needVerse(verse);
        needVerse(other);
        String a = looks(verse, alive(world));
        String b = looks(other, alive(world));
        int turns = 0;
        for (int i = 0; i < a.length(); i++) {
            turns += a.charAt(i) == b.charAt(i) ? 0 : 1;
        }
        return turns;
    }

    int order(int i) {
        need(i >= -1 && i < told.verses.size());
        if (told.verses.isEmpty()) {
            return 0;
        }
        List<List<Integer>> rows = new ArrayList<>();
        allRows(new ArrayList<>(List.of(0)), rows);
        int least = Integer.MAX_VALUE;
        List<Integer> best = null;
        int[][] turns = new int[8][8];
        for (int a = 0; a < told.verses.size(); a++) {
            for (int b = 0; b < told.verses.size(); b++) {
                turns[a][b] = between(a, b);
            }
        }
        for (List<Integer> row : rows) {
            int sum = 0;
            for (int j = 1; j < row.size(); j++) {
                sum += turns[row.get(j - 1)][row.get(j)];
            }
            if (sum < least) {
                least = sum;
                best = row;
            }
        }
        return i == -1 ? least : best.get(i);
    }

    private void allRows(List<Integer> row, List<List<Integer>> rows) {
        if (row.size() == told.verses.size()) {
            rows.add(List.copyOf(row));
        }
        for (int v = 0; v < told.verses.size(); v++) {
            if (!row.contains(v)) {
                row.add(v);
                allRows(row, rows);
                row.remove(row.size() - 1);
            }
        }
    }

    int mirrored(int verse) {
        needVerse(verse);
        String turned = new StringBuilder(looks(verse, alive(world))).reverse().toString();
        for (int v = 0; v < told.verses.size(); v++) {
            if (looks(v, alive(world)).equals(turned)) {
                return v;
            }
        }
        return -1;
    }

    int both(int verse, int other) {
        needVerse(verse);
        needVerse(other);
        return told.verses.get(verse) & told.verses.get(other) & bits(alive(world));
    }

    // ---- what was seen ----

    int see(int rib, int days, boolean gone) {
        needRib(rib);
        if (seen.size() == 8 || days < 0 || days > 20) {
            status[2]++;
            return -1;
        }
        seen.add(new Sight(rib, days, gone));
        return seen.size();
    }

    private int[] goneDays(World from, int last) {
        World w = from.copy();
        int[] gone = new int[21];
        gone[0] = goneBits(w);
        for (int d = 1; d <= last; d++) {
            pass(w, d);
            gone[d] = goneBits(w);
        }
        return gone;
    }

    private boolean allSo(int[] goneDays) {
        for (Sight s : seen) {
            if ((goneDays[s.days] >> s.rib & 1) != (s.gone ? 1 : 0)) {
                return false;
            }
        }
        return true;
    }

    /** By 100 by the rib and the strength: what would be gone on which day, of those that fit. */
    private TreeMap<Integer, int[]> fitting(int last) {
        TreeMap<Integer, int[]> all = new TreeMap<>();
        for (int r = 0; r < ribs(); r++) {
            for (int s = 1; s <= 99; s++) {
                if (s != world.strength[r]) {
                    World w = world.copy();
                    w.strength[r] = s;
                    int[] gone = goneDays(w, last);
                    if (allSo(gone)) {
                        all.put(100 * r + s, gone);
                    }
                }
            }
        }
        return all;
    }

    int strong(int what) {
        need(what >= 0 && what <= 2);
        if (what == 2) {
            return allSo(goneDays(world, 20)) ? 1 : 0;
        }
        TreeMap<Integer, int[]> all = fitting(seen.stream().mapToInt(Sight::days).max().orElse(0));
        return what == 0 ? all.size() : all.isEmpty() ? -1 : all.firstKey();
    }

    int look(int what) {
        need(what == 0 || what == 1);
        TreeMap<Integer, int[]> all = fitting(20);
        int best = -1;
        int most = 0;
        for (int d = 1; d <= 20; d++) {
            Set<Integer> unlike = new HashSet<>();
            for (int[] gone : all.values()) {
                unlike.add(gone[d]);
            }
            if (unlike.size() > most) {
                most = unlike.size();
                best = d;
            }
        }
        return what == 0 ? best : most;
    }

    void forget() {
        seen.clear();
    }

    // ---- chance and choice ----

    int storms(int rib, int days, int tenths) {
        needRib(rib);
        fit(days >= 1 && days <= 5 && tenths >= 0 && tenths <= 10);
        return stormy(world.copy(), rib, days, tenths);
    }

    private int stormy(World w, int rib, int days, int tenths) {
        if (days == 0) {
            return w.strength[rib] == 0 ? 1 : 0;
        }
        World calm = w.copy();
        pass(calm, 0);
        World wild = w.copy();
        for (int r = 0; r < ribs(); r++) {
            wild.strength[r] = Math.max(0, wild.strength[r] - 9);
        }
        pass(wild, 0);
        return (10 - tenths) * stormy(calm, rib, days - 1, tenths) + tenths * stormy(wild, rib, days - 1, tenths);
    }

    private int[] gains(int west, int east) {
        World w = world.copy();
        w.skill[0] = west == 1 ? Math.min(9, w.skill[0] + 3) : w.skill[0];
        w.skill[1] = east == 1 ? Math.min(9, w.skill[1] + 3) : w.skill[1];
        int sails = w.sails;
        pass(w, 1);
        pass(w, 2);
        int prize = w.sails > sails ? 6 : 0;
        return new int[] {2 * w.west + prize - 3 * west, 2 * w.east + prize - 3 * east};
    }

    int game(int what) {
        need(what == 0 || what == 1);
        List<Integer> resting = new ArrayList<>();
        for (int a = 0; a <= 1; a++) {
            for (int b = 0; b <= 1; b++) {
                boolean westStays = gains(1 - a, b)[0] <= gains(a, b)[0];
                boolean eastStays = gains(a, 1 - b)[1] <= gains(a, b)[1];
                if (westStays && eastStays) {
                    resting.add(10 * a + b);
                }
            }
        }
        return what == 0 ? resting.size() : resting.isEmpty() ? -1 : resting.get(0);
    }

    int years(int seed, int n, int what) {
        need(what >= 0 && what <= 2);
        fit(n >= 0 && n <= 60);
        int[] s = {seed};
        World w = world.copy();
        int sails = 0;
        int gaps = 0;
        for (int d = 1; d <= n; d++) {
            int act = draw(s, 7);
            if (act == 0 && ribs() > 0) {
                w.strength[draw(s, ribs())] = 0;
            } else if (act == 1 && ribs() > 0) {
                int r = draw(s, ribs());
                w.strength[r] = Math.min(99, w.strength[r] + 9);
            } else if (act == 2 || act == 3) {
                w.skill[act - 2] = draw(s, 10);
            }
            Sail sail = pass(w, d);
            if (sail != null) {
                sails++;
                gaps += sail.gaps.size();
            }
        }
        return what == 0 ? sails : what == 1 ? gaps : Arrays.stream(w.strength).sum();
    }

    private static int draw(int[] seed, int many) {
        seed[0] = seed[0] * 1103515245 + 12345;
        return (seed[0] >> 16 & 0x7fff) % many;
    }

    // ---- the image ----

    void image() {
        List<World> acted = new ArrayList<>();
        for (World w : acts) {
            acted.add(w.copy());
        }
        image = new Image(world.copy(), acted, new ArrayList<>(seen), status.clone());
    }

    boolean restore() {
        if (image == null) {
            return false;
        }
        world = image.world.copy();
        acts = new ArrayDeque<>();
        for (World w : image.acts) {
            acts.addLast(w.copy());
        }
        seen = new ArrayList<>(image.seen);
        status = image.status.clone();
        return true;
    }
}
