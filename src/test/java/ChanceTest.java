/** Promises 34 to 42: what was seen, storms, the game, years, and the image. */
public final class ChanceTest {
    private static final Checks CHECK = new Checks();

    public static void main(String[] args) {
        see();
        strong();
        look();
        forget();
        storms();
        game();
        years();
        image();
        restore();
        CHECK.due("NONE", -1, RibLoom.NONE);
        CHECK.close("ChanceTest");
    }

    private static void see() {
        CHECK.topic("promise 34");
        RibLoom x = CHECK.told("jaw 5;rib 3;");
        CHECK.none("see(2, 0, true)", () -> x.see(2, 0, true));
        CHECK.none("see(-1, 21, true)", () -> x.see(-1, 21, true));
        CHECK.due("see(0, -1)", -1, x.see(0, -1, true));
        CHECK.due("see(0, 21)", -1, x.see(0, 21, true));
        CHECK.due("STATUS 2", 2, x.count(15));
        for (int i = 1; i <= 8; i++) {
            CHECK.due("see " + i, i, x.see(1, i == 1 ? 0 : 20, i != 1));
        }
        CHECK.due("a ninth", -1, x.see(1, 20, true));
        CHECK.none("no such rib comes ahead", () -> x.see(2, 20, true));
        CHECK.due("STATUS 2", 3, x.count(15));
        CHECK.due("SEEN", 8, x.count(11));
        CHECK.due("no act", 0, x.count(10));
        CHECK.due("STATUS 1", 0, x.count(14));
    }

    private static void strong() {
        CHECK.topic("promise 35");
        RibLoom x = CHECK.told("jaw 5;rib 3;");
        CHECK.none("strong(3)", () -> x.strong(3));
        CHECK.none("strong(-1)", () -> x.strong(-1));
        CHECK.due("all, nothing seen", 196, x.strong(0));
        CHECK.due("the first", 1, x.strong(1));
        CHECK.due("without", 1, x.strong(2));
        x.see(1, 2, true);
        CHECK.due("strengths 1 and 2 of rib 1", 2, x.strong(0));
        CHECK.due("the first", 101, x.strong(1));
        CHECK.due("without: it has 1 left then", 0, x.strong(2));
        x.see(1, 1, false);
        CHECK.due("strength 2 alone", 1, x.strong(0));
        CHECK.due("the first", 102, x.strong(1));
        x.days(1);
        CHECK.due("now it has 2: all of the jaw", 98, x.strong(0));
        CHECK.due("the first", 1, x.strong(1));
        CHECK.due("without", 1, x.strong(2));
        x.see(0, 0, true);
        CHECK.due("none", 0, x.strong(0));
        CHECK.due("no first", -1, x.strong(1));
        CHECK.due("nor without", 0, x.strong(2));
        RibLoom gone = CHECK.told("rib 0;");
        CHECK.due("1 to 99 of a gone one", 99, gone.strong(0));
        gone.see(0, 20, false);
        CHECK.due("21 to 99 live", 79, gone.strong(0));
        CHECK.due("the first", 21, gone.strong(1));
        CHECK.due("without", 0, gone.strong(2));
        RibLoom now = CHECK.told("jaw 0;jaw 5;");
        now.see(0, 0, true);
        CHECK.due("gone now: all of the other one", 98, now.strong(0));
        CHECK.due("the first", 101, now.strong(1));
        CHECK.due("without", 1, now.strong(2));
        now.see(1, 0, false);
        CHECK.due("not gone now: the same", 98, now.strong(0));
        // By a strength of 1 of rib 0, rib 1 has one gone beside it from the first day on.
        RibLoom beside = CHECK.told("rib 50;rib 10;");
        beside.see(1, 5, true);
        CHECK.due("rib 0 with 1, rib 1 with 1 to 5", 6, beside.strong(0));
        CHECK.due("the first", 1, beside.strong(1));
    }

    private static void look() {
        CHECK.topic("promise 36");
        RibLoom x = CHECK.told("jaw 5;rib 3;");
        CHECK.none("look(2)", () -> x.look(2));
        CHECK.none("look(-1)", () -> x.look(-1));
        CHECK.due("behind 1", 1, x.look(0));
        CHECK.due("rib 1 is gone, or not", 2, x.look(1));
        x.see(1, 1, false);
        CHECK.due("then behind 2", 2, x.look(0));
        CHECK.due("gone, or not", 2, x.look(1));
        x.see(1, 20, false);
        CHECK.due("all alike: the first", 1, x.look(0));
        CHECK.due("one", 1, x.look(1));
        x.see(0, 3, true);
        CHECK.due("none", -1, x.look(0));
        CHECK.due("none", 0, x.look(1));
        RibLoom two = CHECK.told("rib 50;rib 50;");
        CHECK.due("behind 1", 1, two.look(0));
        CHECK.due("none, the one, the other", 3, two.look(1));
        RibLoom low = CHECK.told("rib 4;rib 9;");
        // With 1, rib 1 is gone behind a day, and rib 0 rots by 2 then: 4, 3, 1, 0.
        CHECK.due("behind 3: none, 0, 1, both", 3, low.look(0));
        CHECK.due("four", 4, low.look(1));
    }

    private static void forget() {
        CHECK.topic("promise 37");
        RibLoom x = CHECK.told("jaw 5;rib 3;");
        for (int i = 0; i < 8; i++) {
            x.see(0, 0, true);
        }
        CHECK.due("none", 0, x.strong(0));
        x.forget();
        CHECK.due("SEEN", 0, x.count(11));
        CHECK.due("all", 196, x.strong(0));
        CHECK.due("see", 1, x.see(0, 0, false));
    }

    private static void storms() {
        CHECK.topic("promise 38");
        RibLoom x = CHECK.told("jaw 10;rib 10;rib 70;");
        CHECK.due("a jaw of 10, one storm", 0, x.storms(0, 1, 10));
        CHECK.due("two of two", 25, x.storms(0, 2, 5));
        CHECK.due("two of two, 3 tenths", 9, x.storms(0, 2, 3));
        CHECK.due("two or three of three, 3 tenths", 3 * 63 + 27, x.storms(0, 3, 3));
        CHECK.due("always", 100, x.storms(0, 2, 10));
        CHECK.due("never", 0, x.storms(0, 2, 0));
        CHECK.due("a rib of 10: one is enough", 51, x.storms(1, 2, 3));
        CHECK.due("a rib of 10, one day", 3, x.storms(1, 1, 3));
        CHECK.due("a rib of 70", 0, x.storms(2, 5, 10));
        CHECK.due("gone by itself", 100000, CHECK.told("rib 4;").storms(0, 5, 4));
        CHECK.bad("days 0", () -> x.storms(0, 0, 5));
        CHECK.bad("days 6", () -> x.storms(0, 6, 5));
        CHECK.bad("tenths -1", () -> x.storms(0, 1, -1));
        CHECK.bad("tenths 11", () -> x.storms(0, 1, 11));
        CHECK.none("no such rib, days 6", () -> x.storms(3, 6, 5));
        CHECK.none("rib -1", () -> x.storms(-1, 1, 5));
    }

    private static void game() {
        CHECK.topic("promise 39");
        RibLoom x = CHECK.told("jaw 9;jaw 9;jaw 9;jaw 9;clans 1 1;");
        // Done within two days either way: a song only costs.
        CHECK.due("neither sings: how many", 1, x.game(0));
        CHECK.due("neither sings", 0, x.game(1));
        String twelve = "jaw 9;".repeat(12);
        RibLoom y = CHECK.told(twelve + "clans 1 1;");
        CHECK.due("a song gains 4: how many", 1, y.game(0));
        CHECK.due("both sing", 11, y.game(1));
        RibLoom z = CHECK.told(twelve + "clans 1 9;");
        CHECK.due("9 at most: how many", 1, z.game(0));
        CHECK.due("WEST alone sings", 10, z.game(1));
        RibLoom e = CHECK.told(twelve + "clans 9 1;");
        CHECK.due("EAST alone sings", 1, e.game(1));
        // Two a day each: done on day 2 with 6 each. WEST sung: three a day, done on day 2 as well.
        RibLoom done = CHECK.told("jaw 9;".repeat(8) + "clans 4 4;");
        CHECK.due("done without a song", 0, done.game(1));
        // Only by a song anything is woven: one is enough for 6 each, and better for who doesn't sing.
        RibLoom two = CHECK.told("jaw 9;jaw 9;clans 1 1;weaves skill/4;");
        CHECK.due("either one sings: how many", 2, two.game(0));
        CHECK.due("EAST's song comes first", 1, two.game(1));
        // Gains of both by 00, 01, 10, 11: 6 6, 0 7, 3 6, 3 3: each time one of them turns.
        RibLoom never = CHECK.told("jaw 6;jaw 8;jaw 4;jaw 1;jaw 5;jaw 5;clans 5 8;weaves skill-strength;");
        CHECK.due("none rests: how many", 0, never.game(0));
        CHECK.due("none rests", -1, never.game(1));
        CHECK.none("game(2)", () -> x.game(2));
        CHECK.none("game(-1)", () -> x.game(-1));
    }

    private static void years() {
        CHECK.topic("promise 40");
        // Seed 1 draws 16838 5758 | 10113 | 17515 31051 | 5627 | 23010 7419 | 16212 4086 | 2749 | 12767 ..: by 7:
        // 3 (EAST: 8), 5, 1 (shores rib 1), 6, 1 (shores rib 0), 0 (sells rib 0), 5, 6.
        RibLoom x = CHECK.told("jaw 5;jaw 5;jaw 5;weaves skill;clans 1 0;");
        int[][] due = {{0, 0, 15}, {1, 0, 15}, {2, 0, 15}, {3, 0, 24}, {4, 0, 24}, {5, 0, 33}, {6, 1, 19},
            {7, 2, 19}, {8, 3, 19}};
        for (int n = 0; n < due.length; n++) {
            for (int what = 0; what < 3; what++) {
                CHECK.due("years(1, " + n + ", " + what + ")", due[n][what], x.years(1, n, what));
            }
        }
        // Seed 3 draws 17747 7107 | 10365: 2 (WEST: 7), 5; seed -2 draws 31859 20118 | 9736: 2 (WEST: 8), 6.
        RibLoom west = CHECK.told("jaw 5;jaw 5;jaw 5;jaw 5;jaw 5;clans 0 0;weaves skill*(1-place);");
        CHECK.due("SKILL of WEST", 1, west.years(3, 1, 0));
        CHECK.due("SKILL of WEST stays", 2, west.years(3, 2, 0));
        CHECK.due("a seed below 0", 2, west.years(-2, 2, 0));
        CHECK.due("not that of EAST", 0, west.years(1, 1, 0));
        RibLoom east = CHECK.told("jaw 5;jaw 5;jaw 5;jaw 5;jaw 5;clans 0 0;weaves skill*(place-3)-3;");
        CHECK.due("SKILL of EAST is 8: 5 ribs a day", 4, east.years(1, 4, 0));
        CHECK.due("not that of WEST", 0, east.years(3, 2, 0));
        RibLoom one = CHECK.told("jaw 5;");
        CHECK.due("one rib is shored twice, and sold", 0, one.years(1, 6, 2));
        CHECK.due("shored twice", 23, one.years(1, 5, 2));
        // Without ribs the draws behind 0 and 1 are left out, but nothing can be told from it.
        RibLoom none = CHECK.told("clans 1 0;");
        CHECK.due("no ribs: strength", 0, none.years(1, 60, 2));
        CHECK.due("no ribs: sails", 0, none.years(1, 60, 0));
        CHECK.bad("n -1", () -> x.years(1, -1, 0));
        CHECK.bad("n 61", () -> x.years(1, 61, 0));
        CHECK.none("what 3, n 61", () -> x.years(1, 61, 3));
        CHECK.none("what -1", () -> x.years(1, 1, -1));
    }

    private static void image() {
        CHECK.topic("promise 41");
        RibLoom x = CHECK.told("rib 30;jaw 9;");
        x.image();
        x.days(1);
        x.image();
        x.days(1);
        CHECK.due("restore", 1, x.restore() ? 1 : 0);
        CHECK.due("the later image counts", 1, x.count(2));
        CHECK.due("its acts", 1, x.count(10));
    }

    private static void restore() {
        CHECK.topic("promise 42");
        RibLoom x = CHECK.told("rib 30;jaw 9;jaw 8;jaw 7;clans 0 0;");
        CHECK.due("no image", 0, x.restore() ? 1 : 0);
        x.days(1);
        x.see(0, 3, true);
        x.sell(9 - 6);
        x.sell(3);
        x.see(0, 30, true);
        x.image();
        x.days(5);
        x.teach(0, 9);
        x.unpick();
        x.unpick();
        x.see(1, 1, true);
        x.forget();
        x.see(1, 9, true);
        x.see(1, 8, true);
        x.undo();
        Checks.tell(x, "rob");
        Checks.feed(x, "rib");
        for (int again = 0; again < 2; again++) {
            CHECK.due("restore", 1, x.restore() ? 1 : 0);
            int[] due = {4, 0, 1, 1, 1, 0, 0, 8, 0, 0, 2, 1, 20, 0, 1, 1};
            for (int what = 0; what < 16; what++) {
                CHECK.due("count(" + what + ")", due[what], x.count(what));
            }
            CHECK.due("skill", 0, x.skill(0));
            CHECK.due("strength", 29, x.rib(0, 0));
            CHECK.due("seen: rib 0 gone behind 3", 3, x.strong(0));
            CHECK.due("the place of the fault is no part of it", 0, x.fault());
            CHECK.due("undo the sale", 1, x.undo());
            CHECK.due("strength of 3", 7, x.rib(3, 0));
            CHECK.due("undo the day", 0, x.undo());
            CHECK.due("strength of 0", 30, x.rib(0, 0));
            x.shore(0, 1);
            x.shore(0, 1);
        }
    }
}
