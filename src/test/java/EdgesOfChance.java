/** The edges of promises 34 to 42: what was seen, storms, the game, years, and the image. */
final class EdgesOfChance {
    private static final int MIN = Integer.MIN_VALUE;
    private static final int MAX = Integer.MAX_VALUE;
    private static final int SIGHTS = 2;
    private static final String TWELVE = "jaw 9;".repeat(12);
    private static final String GONE_TWELVE = "jaw 0;".repeat(12);

    // ---- promise 34 ----

    static void promise34Behind0To20Days(Checks c) {
        RibLoom x = c.told("rib 9;");
        c.due("see(0, 0, false)", 1, x.see(0, 0, false));
        c.due("see(0, 20, true)", 2, x.see(0, 20, true));
        Watch watch = new Watch(c, x);
        watch.refused(SIGHTS, "see(0, -1, true)", () -> x.see(0, -1, true));
        watch.refused(SIGHTS, "see(0, 21, true)", () -> x.see(0, 21, true));
        watch.refused(SIGHTS, "see(0, MIN, false)", () -> x.see(0, MIN, false));
        watch.refused(SIGHTS, "see(0, MAX, false)", () -> x.see(0, MAX, false));
        c.due("the third", 3, x.see(0, 20, true));
    }

    static void promise34EightAtMost(Checks c) {
        RibLoom x = c.told("rib 9;");
        for (int i = 1; i <= 8; i++) {
            c.due("the " + i + "th", i, x.see(0, 0, false));
        }
        Watch watch = new Watch(c, x);
        watch.refused(SIGHTS, "a ninth", () -> x.see(0, 0, false));
        watch.refused(SIGHTS, "a ninth behind 21 days", () -> x.see(0, 21, true));
    }

    static void promise34NoSuchRibComesAhead(Checks c) {
        RibLoom x = c.told(TWELVE);
        c.due("see(11, 0, false)", 1, x.see(11, 0, false));
        Watch watch = new Watch(c, x);
        watch.none("see(-1, 0, true)", () -> x.see(-1, 0, true));
        watch.none("see(12, 0, true)", () -> x.see(12, 0, true));
        watch.none("see(12, 21, true)", () -> x.see(12, 21, true));
        watch.none("see(MIN, -1, true)", () -> x.see(MIN, -1, true));
        watch.none("see(MAX, 0, false)", () -> x.see(MAX, 0, false));
        for (int i = 0; i < 7; i++) {
            x.see(0, 0, false);
        }
        watch.none("see(12, 0, true), eight are SEEN", () -> x.see(12, 0, true));
    }

    static void promise34NoActTheSameAgainCounts(Checks c) {
        RibLoom x = c.told("rib 9;");
        x.see(0, 5, true);
        c.due("the same again", 2, x.see(0, 5, true));
        c.due("what can't be beside it", 3, x.see(0, 5, false));
        c.due("ACTS", 0, x.count(10));
        c.due("undo()", -1, x.undo());
        c.due("SEEN", 3, x.count(11));
    }

    // ---- promise 35 ----

    static void promise35WhatIs0To2(Checks c) {
        RibLoom x = c.told("rib 9;");
        c.due("strong(0)", 98, x.strong(0));
        c.due("strong(2)", 1, x.strong(2));
        c.none("strong(-1)", () -> x.strong(-1));
        c.none("strong(3)", () -> x.strong(3));
        c.none("strong(MIN)", () -> x.strong(MIN));
        c.none("strong(MAX)", () -> x.strong(MAX));
    }

    static void promise35StrengthFrom1To99ButItsOwn(Checks c) {
        String[] ribs = {"jaw 0;", "jaw 1;", "jaw 2;", "jaw 98;", "jaw 99;"};
        int[] many = {99, 98, 98, 98, 98};
        int[] first = {1, 2, 1, 1, 1};
        for (int i = 0; i < ribs.length; i++) {
            RibLoom x = c.told(ribs[i]);
            c.due("how many of " + ribs[i], many[i], x.strong(0));
            c.due("the first of " + ribs[i], first[i], x.strong(1));
        }
        // Only 99, and only 1, never rots away within 5 DAYS.
        RibLoom most = c.told("rib 50;rots (strength<99)*20;");
        most.see(0, 5, false);
        c.due("99 alone", 1, most.strong(0));
        c.due("99", 99, most.strong(1));
        RibLoom least = c.told("rib 50;rots (1<strength)*20;");
        least.see(0, 5, false);
        c.due("1, 21, 41, 61, 81", 5, least.strong(0));
        c.due("1", 1, least.strong(1));
    }

    static void promise35TheFirstRibAndTheLast(Checks c) {
        RibLoom last = c.told(TWELVE.substring(6) + "rib 50;rots (strength<99)*20;");
        last.see(11, 5, false);
        c.due("one", 1, last.strong(0));
        c.due("1199", 1199, last.strong(1));
        c.due("all of twelve", 12 * 98, c.told(TWELVE).strong(0));
        c.due("all of twelve that are gone", 12 * 99, c.told(GONE_TWELVE).strong(0));
    }

    static void promise35Behind0DaysItIsNow(Checks c) {
        RibLoom gone = c.told("jaw 0;");
        gone.see(0, 0, true);
        c.due("gone now: none has 0", 0, gone.strong(0));
        c.due("no first", -1, gone.strong(1));
        c.due("it is so without", 1, gone.strong(2));
        RibLoom there = c.told("jaw 0;");
        there.see(0, 0, false);
        c.due("there now: 1 to 99", 99, there.strong(0));
        c.due("not so without", 0, there.strong(2));
    }

    static void promise35Behind20Days(Checks c) {
        RibLoom x = c.told("rib 50;");
        x.see(0, 20, true);
        c.due("1 to 20", 20, x.strong(0));
        c.due("the first", 1, x.strong(1));
        c.due("without", 0, x.strong(2));
        x.see(0, 19, false);
        c.due("20 alone", 1, x.strong(0));
        c.due("the first is 20", 20, x.strong(1));
        RibLoom y = c.told("rib 20;");
        y.see(0, 20, true);
        y.see(0, 19, false);
        c.due("20 is what it has", 0, y.strong(0));
        c.due("without", 1, y.strong(2));
    }

    static void promise35AllOfEightMustBeSo(Checks c) {
        RibLoom x = c.told("rib 50;jaw 50;");
        for (int i = 0; i < 7; i++) {
            x.see(0, 1, false);
        }
        c.due("seven: all but 1", 97 + 98, x.strong(0));
        x.see(0, 2, true);
        c.due("the eighth: 2 alone", 1, x.strong(0));
        c.due("the first", 2, x.strong(1));
    }

    static void promise35WhatCannotBeIsNone(Checks c) {
        RibLoom x = c.told("rib 50;");
        x.see(0, 3, true);
        x.see(0, 3, false);
        c.due("how many", 0, x.strong(0));
        c.due("the first", -1, x.strong(1));
        c.due("without", 0, x.strong(2));
    }

    static void promise35OneThatWasTheFirstIsNoneThen(Checks c) {
        RibLoom x = c.told("rib 50;");
        c.due("the first", 1, x.strong(1));
        c.due("look(0)", 1, x.look(0));
        x.see(0, 0, true);
        c.due("none", -1, x.strong(1));
        c.due("none to look for", -1, x.look(0));
        x.forget();
        c.due("the first again", 1, x.strong(1));
        c.due("look(0) again", 1, x.look(0));
        x.sell(0);
        c.due("99 of one that is gone", 99, x.strong(0));
        x.undo();
        c.due("98 of one that is there", 98, x.strong(0));
        x.image();
        x.see(0, 20, true);
        c.due("20", 20, x.strong(0));
        x.restore();
        c.due("98 again", 98, x.strong(0));
        Checks.tell(x, "rib 0;");
        c.due("99 of another loom", 99, x.strong(0));
    }

    static void promise35WithoutRibsNoneAndSoWithout(Checks c) {
        RibLoom x = new RibLoom();
        c.due("how many", 0, x.strong(0));
        c.due("the first", -1, x.strong(1));
        c.due("without", 1, x.strong(2));
    }

    static void promise35ByOneOfThemNotByTwo(Checks c) {
        RibLoom x = c.told("jaw 0;jaw 0;");
        x.see(0, 0, false);
        c.due("one is enough", 99, x.strong(0));
        x.see(1, 0, false);
        c.due("two would be needed", 0, x.strong(0));
    }

    // ---- promise 36 ----

    static void promise36WhatIs0And1(Checks c) {
        RibLoom x = c.told("rib 9;");
        c.due("look(0)", 1, x.look(0));
        c.due("look(1)", 2, x.look(1));
        c.none("look(-1)", () -> x.look(-1));
        c.none("look(2)", () -> x.look(2));
        c.none("look(MIN)", () -> x.look(MIN));
        c.none("look(MAX)", () -> x.look(MAX));
    }

    static void promise36Behind1To20Days(Checks c) {
        // On one DAY all of 20 and less are gone.
        int[] day = {0, 1, 18, 19, 20};
        int[] after = {1, 2, 19, 20, 1};
        int[] many = {2, 2, 2, 2, 1};
        for (int i = 0; i < day.length; i++) {
            RibLoom x = c.told("rib 50;rots (day=" + day[i] + ")*20;");
            c.due("behind how many, on day " + day[i], after[i], x.look(0));
            c.due("how many, on day " + day[i], many[i], x.look(1));
        }
    }

    static void promise36Behind0DaysIsNoLook(Checks c) {
        // By a strength of rib 0, or 1, one or none is gone now; behind a DAY all are.
        RibLoom x = c.told("rib 0;rib 0;rots 20;");
        x.see(0, 1, true);
        x.see(1, 1, true);
        c.due("1 to 20 of each", 40, x.strong(0));
        c.due("behind 1, all alike", 1, x.look(0));
        c.due("one", 1, x.look(1));
    }

    static void promise36OfLikeOnesTheFirst(Checks c) {
        RibLoom x = c.told("rib 50;rots 1;");
        c.due("any day: the first", 1, x.look(0));
        x.see(0, 7, false);
        c.due("behind 8 and on", 8, x.look(0));
        c.due("two", 2, x.look(1));
    }

    static void promise36ThirteenOfTwelve(Checks c) {
        RibLoom x = c.told("rib 50;".repeat(12) + "rots 1;");
        c.due("behind 1", 1, x.look(0));
        c.due("none, or one of twelve", 13, x.look(1));
    }

    static void promise36ThirteenOfTwelveThatAreGone(Checks c) {
        RibLoom x = c.told("rib 0;".repeat(12) + "rots 1;");
        c.due("behind 1", 1, x.look(0));
        c.due("all, or all but one", 13, x.look(1));
        RibLoom last = c.told("jaw 0;".repeat(11) + "rib 0;rots (day=19)*20;");
        c.due("behind 20", 20, last.look(0));
        c.due("twelve that are back, or none", 13, last.look(1));
    }

    static void promise36ByAStrengthOf99Too(Checks c) {
        RibLoom x = c.told("rib 50;rots (strength<99)*20;");
        x.see(0, 5, false);
        c.due("99 alone", 1, x.strong(0));
        c.due("behind 1", 1, x.look(0));
        c.due("one", 1, x.look(1));
    }

    static void promise36NoneWithoutAny(Checks c) {
        RibLoom x = c.told("rib 50;");
        x.see(0, 0, true);
        c.due("look(0)", -1, x.look(0));
        c.due("look(1)", 0, x.look(1));
        RibLoom y = c.told("rib 20;");
        y.see(0, 20, true);
        y.see(0, 19, false);
        c.due("so without, but by no other strength", 1, y.strong(2));
        c.due("look(0)", -1, y.look(0));
        c.due("look(1)", 0, y.look(1));
    }

    static void promise36OneIsEnough(Checks c) {
        RibLoom x = c.told("rib 50;");
        x.see(0, 2, true);
        x.see(0, 1, false);
        c.due("2 alone", 1, x.strong(0));
        c.due("behind 1", 1, x.look(0));
        c.due("one", 1, x.look(1));
    }

    // ---- promise 37 ----

    static void promise37NothingSeenIsNothingForgotten(Checks c) {
        RibLoom x = c.told("rib 9;");
        new Watch(c, x).answers(0, "forget()", () -> {
            x.forget();
            return x.count(11);
        });
    }

    static void promise37AllEightAndEightAgain(Checks c) {
        RibLoom x = c.told("rib 9;");
        for (int i = 0; i < 9; i++) {
            x.see(0, 0, true);
        }
        c.due("STATUS 2", 1, x.count(15));
        x.forget();
        c.due("SEEN", 0, x.count(11));
        c.due("STATUS 2 stays", 1, x.count(15));
        c.due("without", 1, x.strong(2));
        for (int i = 1; i <= 8; i++) {
            c.due("the " + i + "th", i, x.see(0, 0, false));
        }
        c.due("a ninth", -1, x.see(0, 0, false));
    }

    static void promise37ActsAndTheImageStay(Checks c) {
        RibLoom x = c.told("rib 9;");
        x.days(1);
        x.see(0, 0, false);
        x.image();
        x.forget();
        c.due("ACTS", 1, x.count(10));
        c.due("restore()", 1, x.restore() ? 1 : 0);
        c.due("SEEN again", 1, x.count(11));
    }

    // ---- promise 38 ----

    static void promise38Days1To5(Checks c) {
        RibLoom x = c.told("jaw 0;");
        int power = 1;
        for (int days = 1; days <= 5; days++) {
            power *= 10;
            c.due("gone before, " + days + " days", power, x.storms(0, days, 3));
        }
        Watch watch = new Watch(c, x);
        watch.bad("storms(0, 0, 3)", () -> x.storms(0, 0, 3));
        watch.bad("storms(0, 6, 3)", () -> x.storms(0, 6, 3));
        watch.bad("storms(0, -1, 3)", () -> x.storms(0, -1, 3));
        watch.bad("storms(0, MIN, 3)", () -> x.storms(0, MIN, 3));
        watch.bad("storms(0, MAX, 3)", () -> x.storms(0, MAX, 3));
    }

    static void promise38Tenths0To10(Checks c) {
        RibLoom x = c.told("jaw 9;");
        for (int tenths = 0; tenths <= 10; tenths++) {
            c.due(tenths + " tenths", tenths, x.storms(0, 1, tenths));
        }
        Watch watch = new Watch(c, x);
        watch.bad("storms(0, 1, -1)", () -> x.storms(0, 1, -1));
        watch.bad("storms(0, 1, 11)", () -> x.storms(0, 1, 11));
        watch.bad("storms(0, 1, MIN)", () -> x.storms(0, 1, MIN));
        watch.bad("storms(0, 1, MAX)", () -> x.storms(0, 1, MAX));
    }

    static void promise38NoSuchRibComesAhead(Checks c) {
        RibLoom x = c.told(TWELVE);
        c.due("storms(11, 1, 10)", 10, x.storms(11, 1, 10));
        c.none("storms(-1, 1, 1)", () -> x.storms(-1, 1, 1));
        c.none("storms(12, 1, 1)", () -> x.storms(12, 1, 1));
        c.none("storms(12, 0, 1)", () -> x.storms(12, 0, 1));
        c.none("storms(12, 1, 11)", () -> x.storms(12, 1, 11));
        c.none("storms(MIN, 6, 11)", () -> x.storms(MIN, 6, 11));
        c.none("storms(MAX, 6, -1)", () -> x.storms(MAX, 6, -1));
    }

    static void promise38NineLessOfAJaw(Checks c) {
        RibLoom x = c.told("jaw 8;jaw 9;jaw 10;jaw 18;jaw 19;jaw 45;jaw 46;");
        int[][] due = {{0, 1, 5}, {1, 1, 5}, {2, 1, 0}, {2, 2, 25}, {3, 2, 25}, {4, 2, 0}, {4, 3, 125}, {5, 4, 0},
            {5, 5, 3125}, {6, 5, 0}};
        for (int[] row : due) {
            c.due("storms(" + row[0] + ", " + row[1] + ", 5)", row[2], x.storms(row[0], row[1], 5));
        }
    }

    static void promise38NotBelow0(Checks c) {
        // Were it below 0, or did a gone one rot back, rib 0 would be there again.
        RibLoom x = c.told("rib 1;rots 0;");
        c.due("storms(0, 5, 10)", 100000, x.storms(0, 5, 10));
    }

    static void promise38AheadOfTheDay(Checks c) {
        // The storm takes rib 0 first: rib 1 rots by 2 on that very DAY.
        RibLoom x = c.told("jaw 9;rib 11;");
        c.due("9 and 2", 5, x.storms(1, 1, 5));
        RibLoom y = c.told("jaw 10;rib 11;");
        c.due("9 and 1", 0, y.storms(1, 1, 5));
        RibLoom z = c.told("rib 10;");
        c.due("9 and 1 are 10", 4, z.storms(0, 1, 4));
    }

    static void promise38WithoutAndWithAStormForSure(Checks c) {
        RibLoom x = c.told("rib 5;rib 50;rots 1;");
        c.due("0 tenths: it rots away in 5 days", 100000, x.storms(0, 5, 0));
        c.due("0 tenths, 4 days", 0, x.storms(0, 4, 0));
        c.due("10 tenths, 5 days of 10 each", 100000, x.storms(1, 5, 10));
        c.due("9 tenths: 5 storms", 59049, x.storms(1, 5, 9));
        c.due("1 tenth: 5 storms", 1, x.storms(1, 5, 1));
    }

    // ---- promise 39 ----

    private static void game(Checks c, String text, int many, int first) {
        RibLoom x = c.told(text);
        c.due("how many rest of " + text, many, x.game(0));
        c.due("the first of " + text, first, x.game(1));
    }

    static void promise39WhatIs0And1(Checks c) {
        RibLoom x = c.told("jaw 9;");
        c.none("game(-1)", () -> x.game(-1));
        c.none("game(2)", () -> x.game(2));
        c.none("game(MIN)", () -> x.game(MIN));
        c.none("game(MAX)", () -> x.game(MAX));
    }

    static void promise39WithoutRibsASongOnlyCosts(Checks c) {
        game(c, "", 1, 0);
        game(c, GONE_TWELVE, 1, 0);
    }

    static void promise39ThreeMoreNineAtMost(Checks c) {
        game(c, TWELVE + "clans 0 0;weaves (skill=3)*2;", 1, 11);
        game(c, TWELVE + "clans 6 6;weaves (skill=9)*2;", 1, 11);
        game(c, TWELVE + "clans 7 8;weaves (skill=9)*2;", 1, 11);
        game(c, TWELVE + "clans 7 8;weaves (9<skill)*2;", 1, 0);
        game(c, TWELVE + "clans 9 9;weaves (skill=9)*2;", 1, 0);
        game(c, TWELVE + "clans 9 6;weaves (skill=9)*2;", 1, 1);
        game(c, TWELVE + "clans 6 9;weaves (skill=9)*2;", 1, 10);
    }

    static void promise39OneRibIsTooFewForASongTwoAreEnough(Checks c) {
        game(c, TWELVE + "clans 0 0;weaves (skill=3)*(day=0);", 1, 0);
        game(c, TWELVE + "clans 0 0;weaves (skill=3)*(day=0)*2;", 1, 11);
    }

    static void promise39BehindTwoDays(Checks c) {
        game(c, TWELVE + "clans 0 0;weaves (skill=3)*(day=1)*2;", 1, 11);
        game(c, TWELVE + "clans 0 0;weaves (skill=3)*(day=2)*2;", 1, 0);
        String sail = "jaw 9;jaw 9;clans 0 0;weaves (skill=3)*(place=0)*2*";
        game(c, sail + "(day=0);", 1, 10);
        game(c, sail + "(day=1);", 1, 10);
        game(c, sail + "(day=2);", 1, 0);
    }

    static void promise39SixForASailIsMoreThanOneRibLessThanTwo(Checks c) {
        // A song gains 6 less 3, and takes the RIBS that WEST would be past: 2 for one, 4 for two.
        game(c, "jaw 9;jaw 9;clans 0 0;weaves (place=0)*(day=1)*(1+(skill=3));", 1, 10);
        game(c, "jaw 9;jaw 9;jaw 9;clans 0 0;weaves (place=0)*(day=1)*(2+(skill=3));", 1, 0);
        game(c, "jaw 9;jaw 9;clans 0 0;weaves (place=1)*(day=1)*(1+(skill=3));", 1, 1);
        game(c, "jaw 9;jaw 9;jaw 9;clans 0 0;weaves (place=2)*(day=1)*(2+(skill=3));", 1, 0);
    }

    static void promise39SixOnceForTwoSailsToo(Checks c) {
        // Without a song one sail is done, with WEST's two: six for either, less the song.
        game(c, "jaw 9;jaw 9;clans 5 0;weaves skill/4;", 1, 0);
    }

    static void promise39FromNoneToTwoThatRest(Checks c) {
        game(c, "jaw 6;jaw 8;jaw 4;jaw 1;jaw 5;jaw 5;clans 5 8;weaves skill-strength;", 0, -1);
        game(c, "jaw 9;jaw 9;clans 1 1;weaves skill/4;", 2, 1);
    }

    static void promise39NothingChanges(Checks c) {
        RibLoom x = c.told(TWELVE + "clans 1 1;");
        new Watch(c, x).answers(11, "game(1)", () -> x.game(1));
    }

    // ---- promise 40: of the seeds, the first draws stand beside them ----

    static void promise40NFrom0To60(Checks c) {
        RibLoom x = c.told("jaw 9;");
        c.due("years(-1, 0, 0)", 0, x.years(-1, 0, 0));
        c.due("years(-1, 0, 1)", 0, x.years(-1, 0, 1));
        c.due("years(-1, 0, 2)", 9, x.years(-1, 0, 2));
        c.due("years(-1, 1, 0)", 1, x.years(-1, 1, 0));
        c.due("years(-1, 60, 0)", 60, x.years(-1, 60, 0));
        Watch watch = new Watch(c, x);
        watch.bad("years(-1, -1, 0)", () -> x.years(-1, -1, 0));
        watch.bad("years(-1, 61, 0)", () -> x.years(-1, 61, 0));
        watch.bad("years(-1, MIN, 1)", () -> x.years(-1, MIN, 1));
        watch.bad("years(-1, MAX, 2)", () -> x.years(-1, MAX, 2));
    }

    static void promise40WhatIs0To2AndComesAhead(Checks c) {
        RibLoom x = c.told("jaw 9;");
        c.none("years(0, 0, -1)", () -> x.years(0, 0, -1));
        c.none("years(0, 0, 3)", () -> x.years(0, 0, 3));
        c.none("years(0, 61, 3)", () -> x.years(0, 61, 3));
        c.none("years(0, -1, -1)", () -> x.years(0, -1, -1));
    }

    static void promise40WithoutRibs(Checks c) {
        RibLoom x = new RibLoom();
        for (int what = 0; what < 3; what++) {
            c.due("years(0, 60, " + what + ")", 0, x.years(0, 60, what));
        }
    }

    static void promise40TheFirstAndTheLastRibAreSold(Checks c) {
        RibLoom x = c.told("jaw 7;" + TWELVE.substring(12) + "jaw 8;");
        c.due("seed 0: 0, rib 0 of 12", 98, x.years(0, 1, 2));
        c.due("seed 15: 0, rib 11 of 12", 97, x.years(15, 1, 2));
        c.due("one rib alone", 0, c.told("jaw 9;").years(15, 1, 2));
    }

    static void promise40OneThatIsGoneIsNotSold(Checks c) {
        RibLoom x = c.told("jaw 0;" + TWELVE.substring(6));
        c.due("seed 0: 0, rib 0 of 12", 99, x.years(0, 1, 2));
    }

    static void promise40ShoredByNineNinetyNineAtMost(Checks c) {
        int[] strength = {0, 89, 90, 91, 99};
        int[] due = {9, 98, 99, 99, 99};
        for (int i = 0; i < strength.length; i++) {
            RibLoom first = c.told("jaw " + strength[i] + ";" + GONE_TWELVE.substring(6));
            c.due("seed 83: 1, rib 0 of 12, of " + strength[i], due[i], first.years(83, 1, 2));
            RibLoom last = c.told(GONE_TWELVE.substring(6) + "jaw " + strength[i] + ";");
            c.due("seed 58: 1, rib 11 of 12, of " + strength[i], due[i], last.years(58, 1, 2));
        }
    }

    static void promise40SkillFrom0To9(Checks c) {
        String two = "jaw 1;jaw 1;clans 5 5;weaves 2*";
        RibLoom west0 = c.told(two + "(place=0)*(skill=0);");
        c.due("seed 51: 2, 0", 1, west0.years(51, 1, 0));
        c.due("seed 21: EAST's", 0, west0.years(21, 1, 0));
        RibLoom west9 = c.told(two + "(place=0)*(skill=9);");
        c.due("seed 23: 2, 9", 1, west9.years(23, 1, 0));
        c.due("seed 26: EAST's", 0, west9.years(26, 1, 0));
        RibLoom east0 = c.told(two + "(place=1)*(skill=0);");
        c.due("seed 21: 3, 0", 1, east0.years(21, 1, 0));
        c.due("seed 51: WEST's", 0, east0.years(51, 1, 0));
        RibLoom east9 = c.told(two + "(place=1)*(skill=9);");
        c.due("seed 26: 3, 9", 1, east9.years(26, 1, 0));
        c.due("seed 23: WEST's", 0, east9.years(23, 1, 0));
    }

    static void promise40FourToSixDoNothing(Checks c) {
        // Seed -1 draws 4, 6, 6, 6, 5 by 7, and then 2.
        RibLoom x = c.told("rib 50;jaw 9;clans 5 5;rots 1;weaves (skill=5)*(place=0)*2;");
        c.due("sails", 5, x.years(-1, 5, 0));
        c.due("GAPS", 0, x.years(-1, 5, 1));
        c.due("STRENGTH", 54, x.years(-1, 5, 2));
    }

    static void promise40AheadOfTheDay(Checks c) {
        c.due("sold, and a gap of that DAY's sail", 1, c.told("jaw 9;").years(0, 1, 1));
        // Seed 8 draws 1 and then rib 0 of 1: 1 and 9 less 5, not 0 and 9.
        c.due("shored, and then it rots", 5, c.told("rib 1;rots 5;").years(8, 1, 2));
    }

    static void promise40TheSeedWraps(Checks c) {
        RibLoom x = c.told("jaw 7;" + TWELVE.substring(12) + "jaw 8;");
        c.due("MIN draws as 0 does: rib 0 is sold", 98, x.years(MIN, 1, 2));
        c.due("MAX draws as -1 does: nothing", 105, x.years(MAX, 5, 2));
        // Bit 31 of what seed 3 becomes is set, and is left out: 17747 is 2 by 7, 50515 would be 3.
        RibLoom west = c.told("jaw 1;jaw 1;clans 0 0;weaves 2*(place=0)*(skill=7);");
        c.due("seed 3: 2, 7", 1, west.years(3, 1, 0));
    }

    static void promise40GapsAllTogetherAreAddedUp(Checks c) {
        c.due("12 in each of 5 sails", 60, c.told(GONE_TWELVE).years(-1, 5, 1));
        c.due("none in 5 sails", 0, c.told("jaw 9;").years(-1, 5, 1));
    }

    static void promise40OnlySailsOfTheseDays(Checks c) {
        RibLoom x = c.told("jaw 0;");
        x.days(20);
        c.due("sails", 5, x.years(-1, 5, 0));
        c.due("GAPS", 5, x.years(-1, 5, 1));
    }

    static void promise40BehindThe999thDay(Checks c) {
        RibLoom x = c.told("rib 50;rots (day=1003)*7;");
        for (int i = 0; i < 49; i++) {
            x.days(20);
        }
        x.days(19);
        c.due("4 days", 50, x.years(-1, 4, 2));
        c.due("5 days", 43, x.years(-1, 5, 2));
        c.due("the DAY", 999, x.count(2));
    }

    // ---- promise 41 ----

    static void promise41OfANewObject(Checks c) {
        RibLoom x = new RibLoom();
        x.image();
        x.days(1);
        c.due("restore()", 1, x.restore() ? 1 : 0);
        c.due("DAY", 0, x.count(2));
        c.due("ACTS", 0, x.count(10));
    }

    static void promise41InPlaceOfAnotherOne(Checks c) {
        RibLoom x = c.told("rib 9;");
        x.image();
        x.days(1);
        x.image();
        x.days(1);
        for (int again = 0; again < 2; again++) {
            c.due("restore()", 1, x.restore() ? 1 : 0);
            c.due("the latest one", 1, x.count(2));
        }
    }

    static void promise41TakingOneChangesNothing(Checks c) {
        RibLoom x = c.told("rib 9;jaw 3;");
        x.days(3);
        x.see(0, 1, false);
        new Watch(c, x).answers(3, "image()", () -> {
            x.image();
            return x.count(2);
        });
    }

    static void promise41FullOfActsAndSights(Checks c) {
        RibLoom x = c.told("jaw 1;");
        for (int i = 0; i < 41; i++) {
            x.shore(0, 1);
        }
        for (int i = 0; i < 8; i++) {
            x.see(0, i, false);
        }
        x.image();
        for (int i = 0; i < 40; i++) {
            x.teach(0, i % 2 == 0 ? 9 : 8);
        }
        x.forget();
        for (int i = 0; i < 8; i++) {
            x.see(0, 0, true);
        }
        c.due("restore()", 1, x.restore() ? 1 : 0);
        c.due("skill", 3, x.skill(0));
        c.due("strength", 42, x.rib(0, 0));
        c.due("SEEN", 8, x.count(11));
        c.due("98 by what is SEEN", 98, x.strong(0));
        for (int left = 39; left >= 0; left--) {
            c.due("undo()", left, x.undo());
            c.due("strength", 2 + left, x.rib(0, 0));
        }
        c.due("undo()", -1, x.undo());
    }

    // ---- promise 42 ----

    static void promise42FalseWithoutOne(Checks c) {
        RibLoom fresh = new RibLoom();
        new Watch(c, fresh).answers(0, "restore()", () -> fresh.restore() ? 1 : 0);
        RibLoom x = c.told("rib 9;");
        x.days(1);
        x.see(0, 1, true);
        new Watch(c, x).answers(0, "restore()", () -> x.restore() ? 1 : 0);
    }

    static void promise42AGoodLoomTakesItAFaultyOneLeavesIt(Checks c) {
        RibLoom x = c.told("rib 9;");
        x.image();
        x.days(1);
        Checks.tell(x, "rob");
        c.due("behind a faulty text", 1, x.restore() ? 1 : 0);
        c.due("DAY", 0, x.count(2));
        c.due("STATUS 0 is as then", 0, x.count(13));
        Checks.tell(x, "rib 9;");
        c.due("behind a good text", 0, x.restore() ? 1 : 0);
        x.image();
        c.bad("loom(1)", () -> x.loom(1));
        c.due("behind a loom that throws", 1, x.restore() ? 1 : 0);
        x.loom(0);
        c.due("behind an empty text", 0, x.restore() ? 1 : 0);
    }

    static void promise42ItStaysToBeRestoredAgain(Checks c) {
        RibLoom x = c.told("rib 9;");
        x.image();
        for (int i = 0; i < 3; i++) {
            x.days(5);
            x.sell(0);
            c.due("restore()", 1, x.restore() ? 1 : 0);
            c.due("strength", 9, x.rib(0, 0));
            c.due("ACTS", 0, x.count(10));
        }
        new Watch(c, x).answers(1, "restore() of what is so", () -> x.restore() ? 1 : 0);
    }

    static void promise42StatusIsAsThen(Checks c) {
        RibLoom x = c.told("rib 9;");
        x.days(0);
        x.image();
        x.days(0);
        x.see(0, 21, true);
        Checks.tell(x, "rob");
        x.restore();
        c.due("STATUS 0", 0, x.count(13));
        c.due("STATUS 1", 1, x.count(14));
        c.due("STATUS 2", 0, x.count(15));
    }

    static void promise42AllThatDaysAndActsChange(Checks c) {
        RibLoom x = EdgesOfLooms.unlikeInAll(c);
        x.image();
        String then = new Watch(c, x).all(-1);
        x.days(20);
        c.due("sails", 20, x.count(5) - 13);
        x.teach(0, 9);
        x.teach(1, 9);
        x.sell(1);
        x.shore(0, 30);
        x.see(1, 1, true);
        c.due("restore()", 1, x.restore() ? 1 : 0);
        c.due("all is as then", 1, then.equals(new Watch(c, x).all(-1)) ? 1 : 0);
    }

    static void promise42AsManyKeptSailsAsThen(Checks c) {
        RibLoom x = c.told("jaw 1;");
        x.image();
        x.days(9);
        c.due("restore()", 1, x.restore() ? 1 : 0);
        c.due("none", 0, x.count(6));
        c.none("sail(0, 0)", () -> x.sail(0, 0));
        x.days(2);
        x.image();
        x.days(20);
        c.due("restore()", 1, x.restore() ? 1 : 0);
        c.due("two", 2, x.count(6));
        c.due("DAY of the latest", 1, x.sail(0, 1));
        c.none("sail(2, 1)", () -> x.sail(2, 1));
    }

    static void promise42ActsAreUndoneAsThen(Checks c) {
        RibLoom x = EdgesOfLooms.unlikeInAll(c);
        RibLoom twin = EdgesOfLooms.unlikeInAll(c);
        x.image();
        for (int i = 0; i < 20; i++) {
            x.undo();
        }
        for (int i = 0; i < 40; i++) {
            x.shore(3, 1);
        }
        x.restore();
        for (int left = 9; left >= 0; left--) {
            c.due("undo()", left, x.undo());
            twin.undo();
            c.due("as the twin's", 1, new Watch(c, twin).all(-1).equals(new Watch(c, x).all(-1)) ? 1 : 0);
        }
    }

    static void promise42EachOfWhatIsSeenAsThen(Checks c) {
        RibLoom x = c.told("rib 50;rib 60;");
        x.see(1, 7, true);
        x.see(1, 6, false);
        x.image();
        x.forget();
        x.see(0, 3, false);
        x.see(0, 2, true);
        c.due("restore()", 1, x.restore() ? 1 : 0);
        c.due("how many", 1, x.strong(0));
        c.due("rib 1 with 7", 107, x.strong(1));
    }

    static void promise42TheTapeAndTheFaultsPlaceAreNoPartOfIt(Checks c) {
        RibLoom x = c.told("rib 9;");
        x.image();
        Checks.tell(x, "rib 1;rob");
        Checks.feed(x, " ".repeat(40));
        c.due("restore()", 1, x.restore() ? 1 : 0);
        c.due("tape", 40, x.count(12));
        c.due("the latest fault's place", 6, x.fault());
    }
}
