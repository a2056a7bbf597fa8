/** Promises 16 to 21, 26 to 29, 31 and 32: what will be, if only days go by. */
public final class AheadTest {
    private static final Checks CHECK = new Checks();
    private static final String WHALE =
        "rib 3;rib 50;jaw 20;rib 40;rib 2;clans 4 0;verse 21;verse 10;verse 5;";

    public static void main(String[] args) {
        then();
        later();
        gone();
        done();
        widest();
        fall();
        dating();
        before();
        strongest();
        span();
        lost();
        pace();
        twelve();
        nothingChanges();
        answersFollowChanges();
        CHECK.close("AheadTest");
    }

    private static void then() {
        CHECK.topic("promise 16");
        RibLoom x = CHECK.told(WHALE);
        CHECK.due("now", 50, x.then(1, 0));
        CHECK.due("behind 2", 48, x.then(1, 2));
        CHECK.due("behind 3, rib 0 is gone just then", 46, x.then(1, 3));
        CHECK.due("behind 60", 0, x.then(1, 60));
        CHECK.due("a jaw", 20, x.then(2, 60));
        CHECK.bad("then(0, 61)", () -> x.then(0, 61));
        CHECK.bad("then(0, -1)", () -> x.then(0, -1));
        CHECK.none("then(5, 0)", () -> x.then(5, 0));
        CHECK.none("then(-1, 61)", () -> x.then(-1, 61));
    }

    private static void later() {
        CHECK.topic("promise 17");
        RibLoom x = CHECK.told(WHALE);
        CHECK.due("WEST", 2, x.later(1, 0));
        CHECK.due("EAST", 1, x.later(1, 1));
        CHECK.due("WEST, anew", 0, x.later(2, 0));
        CHECK.due("sails", 2, x.later(3, 2));
        CHECK.due("GONE", 17, x.later(3, 3));
        CHECK.bad("later(61, 0)", () -> x.later(61, 0));
        CHECK.bad("later(-1, 3)", () -> x.later(-1, 3));
        CHECK.none("later(0, 4)", () -> x.later(0, 4));
        CHECK.none("later(61, -1)", () -> x.later(61, -1));
        x.days(3);
        CHECK.due("sails in all, not from now on", 2, x.later(0, 2));
        CHECK.due("sails in all then", 3, x.later(1, 2));
    }

    private static void gone() {
        CHECK.topic("promise 18");
        RibLoom x = CHECK.told(WHALE);
        int[] due = {3, 26, -1, 21, 2};
        for (int r = 0; r < 5; r++) {
            CHECK.due("gone(" + r + ")", due[r], x.gone(r));
        }
        x.sell(2);
        CHECK.due("gone now", 0, x.gone(2));
        CHECK.due("behind 60", 60, CHECK.told("rib 60;").gone(0));
        CHECK.due("behind 61", -1, CHECK.told("rib 61;").gone(0));
        CHECK.none("gone(5)", () -> x.gone(5));
        CHECK.none("gone(-1)", () -> x.gone(-1));
    }

    private static void done() {
        CHECK.topic("promise 19");
        RibLoom x = CHECK.told(WHALE);
        int[][] due = {{2, 0, 4}, {3, 17, 3}, {4, 17, 3}};
        for (int k = 1; k <= 3; k++) {
            for (int what = 0; what < 3; what++) {
                CHECK.due("done(" + k + ", " + what + ")", due[k - 1][what], x.done(k, what));
            }
        }
        CHECK.due("the 59th", 60, x.done(59, 0));
        CHECK.due("no 60th", -1, x.done(60, 0));
        CHECK.due("no gaps of it", -1, x.done(60, 1));
        CHECK.due("nor where they meet", -1, x.done(60, 2));
        CHECK.bad("done(0, 0)", () -> x.done(0, 0));
        CHECK.bad("done(61, 2)", () -> x.done(61, 2));
        CHECK.none("done(1, 3)", () -> x.done(1, 3));
        CHECK.none("done(0, -1)", () -> x.done(0, -1));
        x.days(1);
        CHECK.due("from now on", 1, x.done(1, 0));
    }

    private static void widest() {
        CHECK.topic("promise 20");
        CHECK.due("the first", 1, CHECK.told(WHALE).widest());
        RibLoom x = CHECK.told("jaw 5;jaw 5;");
        x.days(1);
        CHECK.due("of like ones the first", 1, x.widest());
        CHECK.due("none", -1, CHECK.told("jaw 5;weaves 0;").widest());
        CHECK.due("all twelve are gaps", 1, CHECK.told("jaw 0;".repeat(12)).widest());
        // A rib that is shored between: the first sail from now on still has the gap on its way.
        RibLoom y = CHECK.told("jaw 0;jaw 5;jaw 5;jaw 5;clans 0 0;");
        y.days(1);
        y.shore(0, 5);
        CHECK.due("gaps of the one on the loom", 1, y.done(1, 1));
        CHECK.due("the second is wider", 2, y.widest());
    }

    private static void fall() {
        CHECK.topic("promise 21");
        RibLoom x = CHECK.told(WHALE);
        CHECK.due("FALL", 4, x.fall(0));
        CHECK.due("LAST", 2, x.fall(1));
        CHECK.none("fall(2)", () -> x.fall(2));
        CHECK.none("fall(-1)", () -> x.fall(-1));
        x.sell(4);
        x.sell(2);
        CHECK.due("FALL of those that aren't now", 0, x.fall(0));
        CHECK.due("LAST of those that are gone", 1, x.fall(1));
        RibLoom beside = CHECK.told("rib 0;rib 5;jaw 1;rib 4;");
        CHECK.due("the one beside a gone one", 1, beside.fall(0));
        RibLoom far = CHECK.told("rib 50;rib 75;jaw 1;rib 80;rib 4;");
        CHECK.due("LAST of two not within 60", 1, far.fall(1));
        RibLoom jaws = CHECK.told("jaw 7;jaw 7;");
        CHECK.due("no FALL", -1, jaws.fall(0));
        CHECK.due("LAST of jaws", 0, jaws.fall(1));
        RibLoom empty = CHECK.told("jaw 0;rib 0;");
        CHECK.due("no FALL of gone ones", -1, empty.fall(0));
        CHECK.due("no LAST of gone ones", -1, empty.fall(1));
        RibLoom soon = CHECK.told("rib 1;jaw 0;");
        CHECK.due("FALL behind 1", 0, soon.fall(0));
        CHECK.due("LAST behind 1", 0, soon.fall(1));
        RibLoom late = CHECK.told("jaw 0;jaw 5;rib 60;jaw 7;rib 60;");
        late.sell(1);
        late.shore(1, 1);
        CHECK.due("FALL behind 60", 2, late.fall(0));
        CHECK.due("LAST is not within 60", 1, late.fall(1));
        RibLoom same = CHECK.told("rib 5;jaw 9;rib 5;");
        same.sell(1);
        CHECK.due("of like ones the least", 0, same.fall(0));
        CHECK.due("of like ones the least, LAST", 0, same.fall(1));
    }

    private static void dating() {
        CHECK.topic("promise 26");
        RibLoom x = CHECK.told(WHALE);
        CHECK.due("first of 17", 2, x.dating(17, 0));
        CHECK.due("last of 17", 19, x.dating(17, 1));
        CHECK.due("first of none", 1, x.dating(0, 0));
        CHECK.due("last of none", 1, x.dating(0, 1));
        CHECK.due("never", -1, x.dating(4, 0));
        CHECK.due("never", -1, x.dating(31, 1));
        CHECK.bad("dating(32, 0)", () -> x.dating(32, 0));
        CHECK.bad("dating(-1, 1)", () -> x.dating(-1, 1));
        CHECK.none("dating(0, 2)", () -> x.dating(0, 2));
        CHECK.none("dating(32, -1)", () -> x.dating(32, -1));
        RibLoom twelve = CHECK.told("jaw 0;".repeat(12));
        CHECK.due("all twelve", 60, twelve.dating(4095, 1));
        CHECK.bad("dating(4096, 0)", () -> twelve.dating(4096, 0));
    }

    private static void before() {
        CHECK.topic("promise 27");
        RibLoom x = CHECK.told(WHALE);
        CHECK.due("before(0, 17)", 1, x.before(0, 17));
        CHECK.due("before(17, 0)", 0, x.before(17, 0));
        CHECK.due("before(17, 17)", 0, x.before(17, 17));
        CHECK.due("none of the first", 0, x.before(4, 17));
        CHECK.due("none of the second", 0, x.before(17, 4));
        CHECK.bad("before(32, 0)", () -> x.before(32, 0));
        CHECK.bad("before(0, 32)", () -> x.before(0, 32));
        CHECK.bad("before(-1, 0)", () -> x.before(-1, 0));
        CHECK.bad("before(0, -1)", () -> x.before(0, -1));
    }

    private static void strongest() {
        CHECK.topic("promise 28");
        RibLoom x = CHECK.told(WHALE);
        CHECK.due("now", 1, x.strongest(0));
        CHECK.due("then the jaw", 2, x.strongest(17));
        CHECK.due("of like ones the least", 0, CHECK.told("jaw 4;jaw 4;").strongest(3));
        CHECK.due("all are gone", -1, CHECK.told("rib 4;").strongest(4));
        CHECK.due("all but one", 0, CHECK.told("rib 4;").strongest(3));
        CHECK.bad("strongest(61)", () -> x.strongest(61));
        CHECK.bad("strongest(-1)", () -> x.strongest(-1));
    }

    private static void span() {
        CHECK.topic("promise 29");
        RibLoom x = CHECK.told("jaw 1;jaw 1;jaw 0;jaw 1;jaw 1;jaw 0;jaw 1;");
        CHECK.due("how many", 2, x.span(0));
        CHECK.due("the first", 0, x.span(1));
        x.shore(5, 1);
        CHECK.due("how many", 4, x.span(0));
        CHECK.due("the first", 3, x.span(1));
        RibLoom none = CHECK.told("jaw 0;");
        CHECK.due("how many of none", 0, none.span(0));
        CHECK.due("the first of none", -1, none.span(1));
        CHECK.none("span(2)", () -> x.span(2));
        CHECK.none("span(-1)", () -> x.span(-1));
    }

    private static void lost() {
        CHECK.topic("promise 31");
        RibLoom x = CHECK.told(WHALE);
        CHECK.due("LOST in none", 0, x.lost(0, 0));
        CHECK.due("LOST in 1", 4, x.lost(1, 0));
        CHECK.due("LOST in 3", 3 + 4 + 4 + 2, x.lost(3, 0));
        CHECK.due("RENT in 2", 0, x.lost(2, 1));
        CHECK.due("RENT in 3", 17, x.lost(3, 1));
        CHECK.due("RENT in 60", 27, x.lost(60, 1));
        CHECK.bad("lost(61, 0)", () -> x.lost(61, 0));
        CHECK.bad("lost(-1, 1)", () -> x.lost(-1, 1));
        CHECK.none("lost(0, 2)", () -> x.lost(0, 2));
        CHECK.none("lost(61, -1)", () -> x.lost(61, -1));
    }

    private static void pace() {
        CHECK.topic("promise 32");
        RibLoom x = CHECK.told(WHALE);
        CHECK.due("WEST", 2, x.pace(0));
        CHECK.due("EAST", 1, x.pace(1));
        CHECK.none("pace(2)", () -> x.pace(2));
        CHECK.none("pace(-1)", () -> x.pace(-1));
        RibLoom y = CHECK.told("jaw 0;jaw 2;jaw 8;jaw 3;jaw 0;weaves strength;");
        CHECK.due("at the first that isn't gone", 2, y.pace(0));
        CHECK.due("at the last that isn't gone", 3, y.pace(1));
        CHECK.due("kept to 5", 5, CHECK.told("jaw 8;weaves strength;").pace(0));
        CHECK.due("kept to 0", 0, CHECK.told("jaw 8;weaves 0-strength;").pace(0));
        CHECK.due("none", 0, CHECK.told("jaw 0;jaw 0;weaves 3;").pace(1));
        RibLoom between = CHECK.told("jaw 1;jaw 4;jaw 2;weaves 1;");
        between.days(1);
        between.sell(1);
        CHECK.due("none between them", 0, between.pace(0));
        RibLoom left = CHECK.told("jaw 1;jaw 0;jaw 2;jaw 4;weaves left;");
        CHECK.due("left", 3, left.pace(1));
    }

    private static void twelve() {
        CHECK.topic("twelve ribs");
        RibLoom x = CHECK.told("rib 30;".repeat(11) + "rib 40;clans 9 9;verse 4095;rots place/11+1;weaves left;");
        CHECK.due("gone(11)", 20, x.gone(11));
        CHECK.due("gone(10)", 30, x.gone(10));
        CHECK.due("fall(0)", 11, x.fall(0));
        CHECK.due("fall(1)", 0, x.fall(1));
        CHECK.due("strongest(1)", 11, x.strongest(1));
        CHECK.due("later(20, 3)", 2048, x.later(20, 3));
        CHECK.due("lost(3, 0)", 39, x.lost(3, 0));
        CHECK.due("done(1, 0)", 2, x.done(1, 0));
        CHECK.due("done(1, 2)", 7, x.done(1, 2));
        CHECK.due("span(0)", 12, x.span(0));
        CHECK.due("verse(0, 1)", 4095, x.verse(0, 1));
        CHECK.due("verse(0, 2)", 12, x.verse(0, 2));
        CHECK.due("mirrored(0)", 0, x.mirrored(0));
        CHECK.due("storms(11, 4, 10)", 10000, x.storms(11, 4, 10));
        CHECK.due("strong(0)", 1176, x.strong(0));
        x.see(11, 19, true);
        CHECK.due("rib 11 with 1 to 38", 38, x.strong(0));
        CHECK.due("the first", 1101, x.strong(1));
    }

    private static void nothingChanges() {
        CHECK.topic("asking changes nothing");
        RibLoom x = CHECK.told(WHALE);
        x.then(0, 60);
        x.later(60, 2);
        x.gone(1);
        x.strong(0);
        x.look(0);
        x.storms(0, 5, 5);
        x.game(0);
        x.years(7, 60, 0);
        int[] due = {5, 3, 0, 0, 0, 0, 0, 0, 0, 3, 0, 0, 0, 0, 0, 0};
        for (int what = 0; what < 16; what++) {
            CHECK.due("count(" + what + ")", due[what], x.count(what));
        }
        CHECK.due("strength", 50, x.rib(1, 0));
        CHECK.due("skill", 4, x.skill(0));
    }

    /** What was asked before must not be answered again when something has changed. */
    private static void answersFollowChanges() {
        CHECK.topic("answers follow changes");
        RibLoom x = CHECK.told("rib 5;rib 9;clans 0 0;");
        CHECK.due("gone(0)", 5, x.gone(0));
        x.shore(0, 3);
        CHECK.due("shored", 8, x.gone(0));
        x.undo();
        CHECK.due("undone", 5, x.gone(0));
        x.image();
        x.sell(0);
        CHECK.due("sold", 0, x.gone(0));
        x.restore();
        CHECK.due("restored", 5, x.gone(0));
        x.days(1);
        CHECK.due("a day later", 4, x.gone(0));
        CHECK.due("done on one day", 1, x.done(1, 0));
        Checks.tell(x, "rib 2;");
        CHECK.due("another loom", 2, x.gone(0));
        CHECK.due("west", 1, x.done(1, 2));
        x.see(0, 1, true);
        CHECK.due("strong(0)", 1, x.strong(0));
        x.forget();
        CHECK.due("strong(0), forgotten", 98, x.strong(0));
        RibLoom y = CHECK.told("jaw 1;jaw 1;jaw 1;jaw 1;clans 0 0;");
        CHECK.due("done(1, 0)", 2, y.done(1, 0));
        y.teach(0, 9);
        CHECK.due("taught", 1, y.done(1, 0));
        y.undo();
        y.days(1);
        CHECK.due("half", 1, y.done(1, 0));
        y.unpick();
        CHECK.due("unpicked", 2, y.done(1, 0));
    }
}
