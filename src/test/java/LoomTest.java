/** Promises 5 to 15: what there is, days, acts, and what is undone. */
public final class LoomTest {
    private static final Checks CHECK = new Checks();
    private static final String WHALE =
        "rib 3;rib 50;jaw 20;rib 40;rib 2;clans 4 0;verse 21;verse 10;verse 5;";

    public static void main(String[] args) {
        counts();
        ribs();
        verses();
        sails();
        skills();
        days();
        rotting();
        rotValues();
        expressions();
        weaving();
        weaveValues();
        selling();
        shoring();
        unpicking();
        teaching();
        undoing();
        CHECK.close("LoomTest");
    }

    private static void counts() {
        CHECK.topic("promise 5");
        RibLoom x = CHECK.told(WHALE);
        CHECK.none("count(16)", () -> x.count(16));
        CHECK.none("count(-1)", () -> x.count(-1));
        int[] due = {5, 3, 0, 0, 0, 0, 0, 0, 0, 3, 0, 0, 0, 0, 0, 0};
        for (int what = 0; what < 16; what++) {
            CHECK.due("count(" + what + ")", due[what], x.count(what));
        }
        x.days(1);
        x.sell(2);
        x.sell(2);
        x.see(0, 1, true);
        x.see(0, 21, true);
        x.see(0, -1, true);
        Checks.feed(x, "rob");
        x.loom(3);
        Checks.feed(x, "rib");
        int[] then = {5, 3, 1, 2, 1, 0, 0, 4, 0, 3, 2, 1, 20, 1, 1, 2};
        for (int what = 0; what < 16; what++) {
            CHECK.due("count(" + what + ") then", then[what], x.count(what));
        }
        x.sell(4);
        CHECK.due("KINDS, 10101 and 00101 on ribs 0, 1 and 3", 2, x.count(9));
        RibLoom y = CHECK.told("jaw 0;jaw 9;jaw 0;jaw 9;jaw 9;clans 0 0;");
        y.days(1);
        CHECK.due("GAPS of the sail on the loom", 1, y.count(8));
        CHECK.due("WEST", 2, y.count(3));
        CHECK.due("EAST", 1, y.count(4));
        CHECK.due("GONE", 5, y.count(7));
    }

    private static void ribs() {
        CHECK.topic("promise 6");
        RibLoom x = CHECK.told(WHALE);
        int[][] due = {{3, 0, 0, 5}, {50, 0, 0, 2}, {20, 1, 0, 5}, {40, 0, 0, 2}, {2, 0, 0, 1}};
        for (int r = 0; r < 5; r++) {
            for (int what = 0; what < 4; what++) {
                CHECK.due("rib(" + r + ", " + what + ")", due[r][what], x.rib(r, what));
            }
        }
        x.days(1);
        int[] past = {1, 1, 0, 0, 1};
        for (int r = 0; r < 5; r++) {
            CHECK.due("rib " + r + " is past", past[r], x.rib(r, 2));
        }
        CHECK.none("rib(5, 0)", () -> x.rib(5, 0));
        CHECK.none("rib(-1, 0)", () -> x.rib(-1, 0));
        CHECK.none("rib(0, 4)", () -> x.rib(0, 4));
        CHECK.none("rib(0, -1)", () -> x.rib(0, -1));
    }

    private static void verses() {
        CHECK.topic("promise 7");
        // Ribs 1 and 4 are gone; of 4095 only the ribs 0, 2, 3, 5 are left.
        RibLoom x = CHECK.told("jaw 9;jaw 0;jaw 9;jaw 9;jaw 0;jaw 9;verse 4095;verse 13;verse 31;verse 2;verse 0;");
        int[][] due = {{4095, 45, 4, 1}, {13, 13, 3, 6}, {31, 13, 3, 6}, {2, 0, 4, 24}, {0, 0, 4, 24}};
        for (int v = 0; v < 5; v++) {
            for (int what = 0; what < 4; what++) {
                CHECK.due("verse(" + v + ", " + what + ")", due[v][what], x.verse(v, what));
            }
        }
        CHECK.none("verse(5, 0)", () -> x.verse(5, 0));
        CHECK.none("verse(-1, 0)", () -> x.verse(-1, 0));
        CHECK.none("verse(0, 4)", () -> x.verse(0, 4));
        CHECK.none("verse(0, -1)", () -> x.verse(0, -1));
        RibLoom y = CHECK.told("jaw 0;verse 1;verse 0;");
        CHECK.due("a float without ribs", 0, y.verse(0, 2));
        CHECK.due("alike without ribs", 3, y.verse(0, 3));
    }

    private static void sails() {
        CHECK.topic("promise 8");
        RibLoom x = CHECK.told("jaw 1;");
        x.days(2);
        x.sell(0);
        x.days(10);
        CHECK.due("sails in all", 12, x.count(5));
        CHECK.due("KEPT", 9, x.count(6));
        CHECK.due("day of the latest", 11, x.sail(0, 1));
        CHECK.due("day of the ninth", 3, x.sail(8, 1));
        CHECK.due("gaps", 1, x.sail(0, 0));
        CHECK.none("sail(9, 0)", () -> x.sail(9, 0));
        CHECK.none("sail(-1, 0)", () -> x.sail(-1, 0));
        CHECK.none("sail(0, 2)", () -> x.sail(0, 2));
        CHECK.none("sail(0, -1)", () -> x.sail(0, -1));
        RibLoom y = CHECK.told("jaw 1;");
        y.days(2);
        y.sell(0);
        y.days(1);
        CHECK.due("gaps of the latest", 1, y.sail(0, 0));
        CHECK.due("gaps of the one before", 0, y.sail(1, 0));
        CHECK.due("its day", 1, y.sail(1, 1));
        CHECK.none("sail(3, 0)", () -> y.sail(3, 0));
    }

    private static void skills() {
        CHECK.topic("promise 9");
        RibLoom x = CHECK.told("clans 9 0;");
        CHECK.due("skill(0)", 9, x.skill(0));
        CHECK.due("skill(1)", 0, x.skill(1));
        CHECK.none("skill(2)", () -> x.skill(2));
        CHECK.none("skill(-1)", () -> x.skill(-1));
        CHECK.due("skill without", 3, CHECK.told("rib 1;").skill(1));
    }

    private static void days() {
        CHECK.topic("promise 10");
        RibLoom x = CHECK.told(WHALE);
        CHECK.due("days(0)", -1, x.days(0));
        CHECK.due("days(21)", -1, x.days(21));
        CHECK.due("days(-1)", -1, x.days(-1));
        CHECK.due("days(MAX)", -1, x.days(Integer.MAX_VALUE));
        CHECK.due("STATUS 1", 4, x.count(14));
        CHECK.due("no act is kept", 0, x.count(10));
        CHECK.due("days(1)", 1, x.days(1));
        for (int i = 1; i <= 49; i++) {
            CHECK.due("days(20)", 1 + 20 * i, x.days(20));
        }
        CHECK.due("days(19) above 999", -1, x.days(19));
        CHECK.due("days(18)", 999, x.days(18));
        CHECK.due("days(1) above 999", -1, x.days(1));
        CHECK.due("STATUS 1", 6, x.count(14));
        CHECK.due("a jaw doesn't rot", 20, x.rib(2, 0));
        CHECK.due("THEN goes beyond", x.count(5) + 60, x.later(60, 2));
    }

    private static void rotting() {
        CHECK.topic("a day: rot");
        RibLoom x = CHECK.told("rib 9;rib 1;rib 9;rib 0;rib 9;jaw 9;jaw 0;rib 5;");
        x.days(1);
        // Rib 0 is asked ahead of rib 1, which is gone when rib 2 is asked; two gone ones beside count once.
        int[] due = {8, 0, 7, 0, 7, 9, 0, 3};
        for (int r = 0; r < 8; r++) {
            CHECK.due("strength of " + r, due[r], x.rib(r, 0));
        }
        RibLoom y = CHECK.told("rib 7;rots 5;");
        CHECK.due("5 less", 2, y.then(0, 1));
        CHECK.due("not below 0", 0, y.then(0, 2));
        CHECK.due("kept to 20", 30, CHECK.told("rib 50;rots 100;").then(0, 1));
        CHECK.due("kept to 0", 50, CHECK.told("rib 50;rots 0-5;").then(0, 1));
        CHECK.due("a jaw", 50, CHECK.told("jaw 50;rots 5;").then(0, 1));
    }

    private static void rotValues() {
        CHECK.topic("values of ROTS");
        RibLoom strength = CHECK.told("rib 9;rots strength/2;");
        int[] halves = {9, 5, 3, 2, 1, 1};
        for (int d = 0; d < 6; d++) {
            CHECK.due("half of strength behind " + d, halves[d], strength.then(0, d));
        }
        RibLoom place = CHECK.told("rib 10;rib 10;rib 10;rots place;");
        RibLoom beside = CHECK.told("rib 1;rib 2;rib 3;rots beside;");
        int[] left = {0, 0, 3};
        for (int r = 0; r < 3; r++) {
            CHECK.due("place", 10 - r, place.then(r, 1));
            CHECK.due("beside", left[r], beside.then(r, 1));
        }
        RibLoom day = CHECK.told("rib 20;rots day+1;");
        CHECK.due("day, behind 3", 14, day.then(0, 3));
        RibLoom woven = CHECK.told("rib 20;rib 20;rib 20;clans 0 0;rots woven*4+1;");
        int[][] due = {{19, 19, 19}, {14, 18, 14}, {13, 17, 13}};
        for (int d = 1; d <= 3; d++) {
            for (int r = 0; r < 3; r++) {
                CHECK.due("woven " + r + " behind " + d, due[d - 1][r], woven.then(r, d));
            }
        }
    }

    private static void value(String expr, int due) {
        CHECK.due(expr, due, 99 - CHECK.told("rib 99;rots " + expr + ";").then(0, 1));
    }

    private static void expressions() {
        CHECK.topic("expressions");
        value("2+3*4", 14);
        value("(2+3)*4", 20);
        value("20-5-3", 12);
        value("2-3-4+10", 5);
        value("8/2*3", 12);
        value("8/(2*3)", 1);
        value("9/2", 4);
        value("(0-9)/2+10", 6);
        value("7/0", 0);
        value("7/(3-3)+3", 3);
        value("1<2", 1);
        value("2<2", 0);
        value("2=2", 1);
        value("2=3", 0);
        value("1+1<3", 1);
        value("2*3=6", 1);
        value("not 5", 0);
        value("not 0", 1);
        value("not not 5", 1);
        value("not 1<2", 0);
        value("not 0+5", 0);
        value("(not 0)+5", 6);
        value("5 and 7", 1);
        value("5 and 0", 0);
        value("0 or 9", 1);
        value("0 or 0", 0);
        value("1 or 0 and 0", 1);
        value("(1 or 0) and 0", 0);
        value("not 0 and 0", 0);
        value("9999*9999*9999<0", 1);
        value("(0-2048*1024*1024)/(0-1)<0", 1);
        value("(((((7)))))", 7);
        value("1+(2+(3+(4+(5+3))))", 18);
        value("0+1*2<3 and 4-1=3 or not 1", 1);
    }

    private static void weaving() {
        CHECK.topic("a day: weaving");
        RibLoom x = CHECK.told("jaw 9;jaw 0;jaw 9;jaw 0;jaw 9;jaw 9;clans 4 0;");
        x.days(1);
        CHECK.due("WEST weaves 2 and goes past 1", 3, x.count(3));
        CHECK.due("EAST weaves 1", 1, x.count(4));
        CHECK.due("GAPS so far", 2, x.count(8));
        x.days(1);
        CHECK.due("done", 1, x.count(5));
        CHECK.due("GAPS", 10, x.sail(0, 0));
        CHECK.due("DAY", 1, x.sail(0, 1));
        CHECK.due("WEST anew", 0, x.count(3));
        CHECK.due("EAST anew", 0, x.count(4));
        CHECK.due("GAPS anew", 0, x.count(8));
        RibLoom allGone = CHECK.told("jaw 0;jaw 0;");
        CHECK.due("all gone: west meets the end", 2, allGone.done(1, 2));
        CHECK.due("all gone: gaps", 3, allGone.done(1, 1));
        CHECK.due("all gone: a sail a day", 60, allGone.done(60, 0));
        RibLoom east = CHECK.told("jaw 9;jaw 0;jaw 0;clans 0 0;");
        CHECK.due("WEST weaves one", 1, east.done(1, 2));
        CHECK.due("EAST goes past the gone ones", 6, east.done(1, 1));
        CHECK.due("on one day", 1, east.done(1, 0));
        RibLoom many = CHECK.told("jaw 9;".repeat(12) + "weaves 9;");
        CHECK.due("kept to 5, WEST", 5, many.later(1, 0));
        CHECK.due("kept to 5, EAST", 5, many.later(1, 1));
        CHECK.due("done on day 2", 2, many.done(1, 0));
        CHECK.due("WEST takes the rest", 7, many.done(1, 2));
        RibLoom never = CHECK.told("jaw 9;weaves 0-1;");
        CHECK.due("kept to 0", -1, never.done(1, 0));
        RibLoom skill = CHECK.told("jaw 9;".repeat(12) + "clans 7 8;");
        CHECK.due("SKILL 7 by 4", 2, skill.later(1, 0));
        CHECK.due("SKILL 8 by 4", 3, skill.later(1, 1));
    }

    private static void weaveValues() {
        CHECK.topic("values of WEAVES");
        String ribs = "jaw 0;jaw 1;jaw 2;jaw 9;jaw 9;jaw 9;jaw 4;jaw 0;";
        RibLoom x = CHECK.told(ribs + "clans 2 1;weaves skill;");
        CHECK.due("skill of WEST", 3, x.later(1, 0));
        CHECK.due("skill of EAST", 2, x.later(1, 1));
        RibLoom y = CHECK.told(ribs + "weaves strength;");
        CHECK.due("strength before WEST, asked once", 2, y.later(1, 0));
        CHECK.due("strength before EAST", 5, y.later(1, 1));
        RibLoom z = CHECK.told(ribs + "weaves place;");
        CHECK.due("place before WEST is 1", 2, z.done(1, 2));
        CHECK.due("place before EAST is 6, kept to 5", 1, z.done(1, 0));
        RibLoom left = CHECK.told(ribs + "weaves left-4;");
        CHECK.due("WEST has 6 left: 2", 3, left.later(1, 0));
        CHECK.due("EAST has 4 left: 0", 1, left.later(1, 1));
        RibLoom day = CHECK.told(ribs + "weaves day;");
        CHECK.due("day 0, WEST goes past the gone one", 1, day.later(1, 0));
        CHECK.due("day 1", 2, day.later(2, 0));
        CHECK.due("day 2", 4, day.done(1, 2));
        CHECK.due("they meet on day 2", 3, day.done(1, 0));
    }

    private static void selling() {
        CHECK.topic("promise 11");
        RibLoom x = CHECK.told(WHALE);
        CHECK.none("sell(5)", () -> x.sell(5));
        CHECK.none("sell(-1)", () -> x.sell(-1));
        CHECK.due("a throw is no refusal", 0, x.count(14));
        CHECK.due("sell(1)", 50, x.sell(1));
        CHECK.due("sell(1) again", -1, x.sell(1));
        CHECK.due("STATUS 1", 1, x.count(14));
        CHECK.due("a jaw is sold, too", 20, x.sell(2));
        CHECK.due("gone", 6, x.count(7));
        CHECK.due("acts", 2, x.count(10));
    }

    private static void shoring() {
        CHECK.topic("promise 12");
        RibLoom x = CHECK.told(WHALE);
        CHECK.none("shore(5, 1)", () -> x.shore(5, 1));
        CHECK.none("shore(5, 31)", () -> x.shore(5, 31));
        CHECK.due("shore(1, 0)", -1, x.shore(1, 0));
        CHECK.due("shore(1, 31)", -1, x.shore(1, 31));
        CHECK.due("STATUS 1", 2, x.count(14));
        CHECK.due("shore(1, 30)", 80, x.shore(1, 30));
        CHECK.due("99 at most", 99, x.shore(1, 20));
        CHECK.due("99 stays", 99, x.shore(1, 1));
        x.sell(4);
        CHECK.due("a gone one", 1, x.shore(4, 1));
        CHECK.due("acts", 5, x.count(10));
    }

    private static void unpicking() {
        CHECK.topic("promise 13");
        RibLoom x = CHECK.told("jaw 0;jaw 9;jaw 9;jaw 9;jaw 9;clans 0 0;");
        CHECK.due("unpick() at the ends", -1, x.unpick());
        CHECK.due("STATUS 1", 1, x.count(14));
        x.days(1);
        CHECK.due("unpick()", 3, x.unpick());
        CHECK.due("WEST", 0, x.count(3));
        CHECK.due("EAST", 0, x.count(4));
        CHECK.due("GAPS", 0, x.count(8));
        CHECK.due("the day stays", 1, x.count(2));
        CHECK.due("no sail", 0, x.count(5));
        CHECK.due("unpick() again", -1, x.unpick());
    }

    private static void teaching() {
        CHECK.topic("promise 14");
        RibLoom x = CHECK.told(WHALE);
        CHECK.none("teach(2, 1)", () -> x.teach(2, 1));
        CHECK.none("teach(-1, 10)", () -> x.teach(-1, 10));
        CHECK.due("teach(0, 10)", -1, x.teach(0, 10));
        CHECK.due("teach(0, -1)", -1, x.teach(0, -1));
        CHECK.due("it is so", -1, x.teach(0, 4));
        CHECK.due("STATUS 1", 3, x.count(14));
        CHECK.due("teach(0, 9)", 4, x.teach(0, 9));
        CHECK.due("teach(1, 9)", 0, x.teach(1, 9));
        CHECK.due("skill(0)", 9, x.skill(0));
        CHECK.due("teach(0, 0)", 9, x.teach(0, 0));
    }

    private static void undoing() {
        CHECK.topic("promise 15");
        RibLoom x = CHECK.told(WHALE);
        CHECK.due("undo() without", -1, x.undo());
        CHECK.due("no STATUS for it", 0, x.count(14));
        x.days(3);
        x.sell(1);
        x.shore(0, 5);
        x.teach(1, 8);
        x.days(1);
        x.unpick();
        CHECK.due("acts", 5, x.count(10));
        CHECK.due("the sail of day 3 is kept", 3, x.count(5));
        CHECK.due("undo the days", 4, x.undo());
        CHECK.due("sails", 2, x.count(5));
        CHECK.due("kept", 2, x.count(6));
        CHECK.due("day", 3, x.count(2));
        CHECK.due("undo the skill", 3, x.undo());
        CHECK.due("skill", 0, x.skill(1));
        CHECK.due("undo the shoring", 2, x.undo());
        CHECK.due("strength of 0", 0, x.rib(0, 0));
        CHECK.due("undo the sale", 1, x.undo());
        CHECK.due("strength of 1", 46, x.rib(1, 0));
        CHECK.due("undo the days", 0, x.undo());
        CHECK.due("strength of 1", 50, x.rib(1, 0));
        CHECK.due("day", 0, x.count(2));
        CHECK.due("STATUS 1 stays", 1, x.count(14));
        latestForty();
    }

    private static void latestForty() {
        RibLoom x = CHECK.told("jaw 1;");
        for (int i = 0; i < 45; i++) {
            x.shore(0, 1);
        }
        CHECK.due("40 acts are kept", 40, x.count(10));
        for (int left = 39; left >= 0; left--) {
            CHECK.due("undo()", left, x.undo());
            CHECK.due("strength then", 6 + left, x.rib(0, 0));
        }
        CHECK.due("the first five stay", 6, x.rib(0, 0));
        CHECK.due("undo() without", -1, x.undo());
    }
}
