/** The edges of promise 10 (days), and of what happens on a DAY: rot, the clans' weaving, a sail that is done. */
final class EdgesOfDays {
    private static final int ACTS = 1;
    private static final String TWELVE = "jaw 9;".repeat(12);

    // ---- how many ----

    static void promise10OneToTwenty(Checks c) {
        RibLoom x = c.told("rib 99;");
        c.due("days(1)", 1, x.days(1));
        c.due("strength", 98, x.rib(0, 0));
        c.due("days(20)", 21, x.days(20));
        c.due("strength", 78, x.rib(0, 0));
        c.due("ACTS", 2, x.count(10));
        c.due("STATUS", 0, x.count(14));
    }

    static void promise10OthersAreRefused(Checks c) {
        RibLoom x = c.told("rib 99;");
        x.days(1);
        Watch watch = new Watch(c, x);
        watch.refused(ACTS, "days(0)", () -> x.days(0));
        watch.refused(ACTS, "days(-1)", () -> x.days(-1));
        watch.refused(ACTS, "days(21)", () -> x.days(21));
        watch.refused(ACTS, "days(MIN)", () -> x.days(Integer.MIN_VALUE));
        watch.refused(ACTS, "days(MAX)", () -> x.days(Integer.MAX_VALUE));
    }

    static void promise10TheDayIs999AtMost(Checks c) {
        RibLoom x = c.told("jaw 1;");
        for (int i = 1; i <= 49; i++) {
            c.due("days(20)", 20 * i, x.days(20));
        }
        Watch watch = new Watch(c, x);
        watch.refused(ACTS, "days(20) on 980", () -> x.days(20));
        c.due("days(18)", 998, x.days(18));
        watch.refused(ACTS, "days(2) on 998", () -> x.days(2));
        c.due("days(1)", 999, x.days(1));
        watch.refused(ACTS, "days(1) on 999", () -> x.days(1));
        c.due("undo()", 39, x.undo());
        c.due("days(1) again", 999, x.days(1));
        c.due("the last sail's DAY", 998, x.sail(0, 1));
    }

    static void promise10From980NineteenAreIn(Checks c) {
        RibLoom x = c.told("jaw 1;");
        for (int i = 0; i < 49; i++) {
            x.days(20);
        }
        c.due("days(19)", 999, x.days(19));
    }

    static void promise10ManyAtOnceAreOneActAndAsManySingleOnes(Checks c) {
        String text = "rib 40;rib 9;jaw 7;rib 22;rib 0;rib 31;clans 5 2;";
        RibLoom once = c.told(text);
        RibLoom singly = c.told(text);
        once.days(20);
        for (int i = 0; i < 20; i++) {
            singly.days(1);
        }
        c.due("ACTS at once", 1, once.count(10));
        c.due("ACTS singly", 20, singly.count(10));
        for (int what = 0; what < 10; what++) {
            c.due("count(" + what + ")", singly.count(what), once.count(what));
        }
    }

    // ---- rot ----

    static void promise10RotIsKeptTo0To20(Checks c) {
        String[] rules = {"0-9999", "0-1", "0", "1", "19", "20", "21", "9999"};
        int[] due = {50, 50, 50, 49, 31, 30, 30, 30};
        for (int i = 0; i < rules.length; i++) {
            RibLoom x = c.told("rib 50;rots " + rules[i] + ";");
            x.days(1);
            c.due("rots " + rules[i], due[i], x.rib(0, 0));
        }
    }

    static void promise10StrengthIsNotBelow0(Checks c) {
        String[] ribs = {"21", "20", "19", "1"};
        int[] due = {1, 0, 0, 0};
        for (int i = 0; i < ribs.length; i++) {
            RibLoom x = c.told("rib " + ribs[i] + ";rots 20;");
            x.days(1);
            c.due("rib " + ribs[i], due[i], x.rib(0, 0));
        }
    }

    static void promise10WithoutRots1And1MoreBesideAGoneOne(Checks c) {
        String[] texts = {"rib 9;", "rib 9;jaw 1;", "jaw 1;rib 9;jaw 1;", "rib 9;jaw 0;", "jaw 0;rib 9;", "jaw 0;rib 9;jaw 1;",
            "jaw 1;rib 9;jaw 0;", "jaw 0;rib 9;jaw 0;", "jaw 0;jaw 1;rib 9;jaw 1;jaw 0;"};
        int[] which = {0, 0, 1, 0, 1, 1, 1, 1, 2};
        int[] due = {8, 8, 8, 7, 7, 7, 7, 7, 8};
        for (int i = 0; i < texts.length; i++) {
            RibLoom x = c.told(texts[i]);
            x.days(1);
            c.due(texts[i], due[i], x.rib(which[i], 0));
        }
    }

    static void promise10TwoAreTakenFromAStrengthOf1And2(Checks c) {
        RibLoom x = c.told("rib 1;jaw 0;rib 2;jaw 0;rib 3;");
        x.days(1);
        c.due("1", 0, x.rib(0, 0));
        c.due("2", 0, x.rib(2, 0));
        c.due("3", 1, x.rib(4, 0));
    }

    static void promise10RibByRib(Checks c) {
        RibLoom x = c.told("rib 1;rib 9;rib 9;");
        x.days(1);
        c.due("the one behind a rib that is gone just now", 7, x.rib(1, 0));
        RibLoom y = c.told("rib 9;rib 1;");
        y.days(1);
        c.due("the one ahead of it", 8, y.rib(0, 0));
    }

    static void promise10AJawDoesntRot(Checks c) {
        RibLoom x = c.told("jaw 0;jaw 1;jaw 99;jaw 0;rots 20;");
        x.days(20);
        c.due("1", 1, x.rib(1, 0));
        c.due("99", 99, x.rib(2, 0));
        RibLoom y = c.told("jaw 0;jaw 1;");
        y.days(20);
        c.due("without ROTS", 1, y.rib(1, 0));
    }

    static void promise10AGoneOneStaysGone(Checks c) {
        RibLoom x = c.told("rib 0;rots 0-5;");
        x.days(20);
        c.due("strength", 0, x.rib(0, 0));
    }

    static void promise10BesideAtTheEnds(Checks c) {
        String[] texts = {"rib 50;", "rib 50;jaw 3;", "jaw 3;rib 50;", "jaw 3;rib 50;jaw 4;", "jaw 0;rib 50;jaw 4;"};
        int[] which = {0, 0, 1, 1, 1};
        int[] due = {50, 47, 47, 43, 46};
        for (int i = 0; i < texts.length; i++) {
            RibLoom x = c.told(texts[i] + "rots beside;");
            x.days(1);
            c.due(texts[i], due[i], x.rib(which[i], 0));
        }
    }

    static void promise10PlaceFrom0To11(Checks c) {
        RibLoom x = c.told("rib 50;".repeat(12) + "rots place;");
        x.days(1);
        for (int r = 0; r < 12; r++) {
            c.due("rib " + r, 50 - r, x.rib(r, 0));
        }
    }

    static void promise10StrengthAsItIsNow(Checks c) {
        RibLoom x = c.told("rib 99;rib 1;rots strength;");
        x.days(1);
        c.due("99, kept to 20 less", 79, x.rib(0, 0));
        c.due("1", 0, x.rib(1, 0));
    }

    static void promise10TheFirstDayIs0(Checks c) {
        RibLoom x = c.told("rib 50;rots day+1;");
        x.days(1);
        c.due("day 0", 49, x.rib(0, 0));
        x.days(1);
        c.due("day 1", 47, x.rib(0, 0));
    }

    static void promise10TheLastDayIs998(Checks c) {
        RibLoom x = c.told("rib 50;rots (day=998)*7;");
        for (int i = 0; i < 49; i++) {
            x.days(20);
        }
        x.days(18);
        c.due("on 998", 50, x.rib(0, 0));
        x.days(1);
        c.due("on 999", 43, x.rib(0, 0));
    }

    static void promise10WovenByEitherClanInThisSail(Checks c) {
        RibLoom x = c.told("rib 50;rib 50;rib 50;clans 0 0;rots woven*9;");
        int[][] due = {{50, 50, 50}, {41, 50, 41}, {41, 50, 41}, {32, 50, 32}};
        for (int d = 0; d < 4; d++) {
            x.days(1);
            for (int r = 0; r < 3; r++) {
                c.due("rib " + r + " on day " + (d + 1), due[d][r], x.rib(r, 0));
            }
        }
    }

    // ---- what an EXPR gives ----

    private static void gives(Checks c, String expr, int due) {
        RibLoom x = c.told("rib 99;rots " + expr + ";");
        x.days(1);
        c.due(expr, due, 99 - x.rib(0, 0));
    }

    static void promise10IntsWrap(Checks c) {
        // 46341 squared is one beyond the greatest int's root.
        gives(c, "(9999*4+6345)*(9999*4+6345)<0", 1);
        gives(c, "(9999*4+6344)*(9999*4+6344)<0", 0);
        gives(c, "2048*1024*1024<0", 1);
        gives(c, "2048*1024*1024-1<0", 0);
        gives(c, "4096*1024*1024", 0);
        gives(c, "4096*1024*1024+7", 7);
        gives(c, "2048*1024*1024/(0-1)<0", 1);
    }

    static void promise10DivisionIsCutDownTo0(Checks c) {
        gives(c, "9/2", 4);
        gives(c, "1/2", 0);
        gives(c, "(0-1)/2+5", 5);
        gives(c, "(0-9)/2+5", 1);
        gives(c, "9/(0-2)+5", 1);
        gives(c, "(0-9)/(0-2)", 4);
        gives(c, "9999/9999", 1);
    }

    static void promise10ByNoughtGivesNought(Checks c) {
        gives(c, "7/0", 0);
        gives(c, "0/0", 0);
        gives(c, "7/0+3", 3);
        gives(c, "7/(1-1)/2+3", 3);
        gives(c, "7*(5/0)+2", 2);
    }

    static void promise10TestsAtTheirEdge(Checks c) {
        gives(c, "(1<2)*5", 5);
        gives(c, "(2<2)*5", 0);
        gives(c, "(3<2)*5", 0);
        gives(c, "(1=2)*5", 0);
        gives(c, "(2=2)*5", 5);
        gives(c, "((0-1)<0)*5", 5);
        gives(c, "9998<9999", 1);
    }

    static void promise10WhatIsnt0Holds(Checks c) {
        gives(c, "(0-7) and 2", 1);
        gives(c, "(0-7) and 0", 0);
        gives(c, "0 and 0", 0);
        gives(c, "0 or (0-7)", 1);
        gives(c, "0 or 0", 0);
        gives(c, "not (0-7)", 0);
        gives(c, "not 0", 1);
        gives(c, "not not 9", 1);
        gives(c, "not not not not not not 9", 1);
        gives(c, "not not not not not 9", 0);
    }

    static void promise10FromTheLeftAndByRank(Checks c) {
        gives(c, "9-4-3", 2);
        gives(c, "9-4+3", 8);
        gives(c, "16/4/2", 2);
        gives(c, "16/4*2", 8);
        gives(c, "2*9/5", 3);
        gives(c, "2+3*4", 14);
        gives(c, "9-2*3", 3);
        gives(c, "2*3+4", 10);
        gives(c, "9-8/4", 7);
        gives(c, "8/4-1", 1);
        gives(c, "2*3=6", 1);
        gives(c, "0<9-9", 0);
        gives(c, "1+1<1*3", 1);
        gives(c, "not 1<0", 1);
        gives(c, "not 0 and 0", 0);
        gives(c, "1 or 0 and 0", 1);
        gives(c, "1<2 and 3=3 or 0", 1);
    }

    static void promise10TheDeepestExprIsWorkedOut(Checks c) {
        gives(c, "20-(1+(1+(1+(1+(1+5)))))", 10);
        gives(c, "not (not (not (not (not (0)))))", 1);
        gives(c, "1 or (1 and (1<(1+(1*(7)))))", 1);
        gives(c, "0 or 0 and 0<0+1*(0 or 0 and 0<0+1*(0 or 0 and 0<0+1*(0 or 0 and 0<0+1*(1 or 1 and 1<1+1*(1)))))", 0);
    }

    // ---- weaving ----

    static void promise10WeavingIsKeptTo0To5(Checks c) {
        String[] rules = {"0-9999", "0-1", "0", "1", "4", "5", "6", "9999"};
        int[] due = {0, 0, 0, 1, 4, 5, 5, 5};
        for (int i = 0; i < rules.length; i++) {
            RibLoom x = c.told(TWELVE + "weaves " + rules[i] + ";");
            x.days(1);
            c.due("WEST, weaves " + rules[i], due[i], x.count(3));
            c.due("EAST, weaves " + rules[i], due[i], x.count(4));
        }
    }

    static void promise10WithoutWeaves1AndSkillBy4(Checks c) {
        int[] due = {1, 1, 1, 1, 2, 2, 2, 2, 3, 3};
        for (int skill = 0; skill <= 9; skill++) {
            RibLoom x = c.told(TWELVE + "clans " + skill + " " + (9 - skill) + ";");
            x.days(1);
            c.due("WEST of " + skill, due[skill], x.count(3));
            c.due("EAST of " + (9 - skill), due[9 - skill], x.count(4));
        }
    }

    static void promise10OneRibIsWestsAndEastHasNone(Checks c) {
        RibLoom x = c.told("jaw 1;weaves 5;");
        x.days(1);
        c.due("one sail a DAY", 1, x.count(5));
        c.due("WEST", 0, x.count(3));
        c.due("EAST", 0, x.count(4));
        c.due("MEET", 1, x.done(1, 2));
    }

    static void promise10OnlyAsLongAsThereAreSomeBetweenThem(Checks c) {
        RibLoom x = c.told("jaw 1;jaw 1;jaw 1;jaw 1;jaw 1;weaves 2;");
        x.days(1);
        c.due("WEST", 2, x.count(3));
        c.due("EAST", 2, x.count(4));
        c.due("WEST takes the last one alone", 3, x.done(1, 2));
        x.days(1);
        c.due("sails", 1, x.count(5));
        c.due("they begin anew on the next DAY", 0, x.count(3));
    }

    static void promise10WestCanTakeAll(Checks c) {
        RibLoom x = c.told("jaw 1;jaw 1;jaw 1;jaw 1;jaw 1;weaves 5;");
        c.due("MEET", 5, x.done(1, 2));
        x.days(1);
        c.due("sails", 1, x.count(5));
    }

    static void promise10EastCanTakeAll(Checks c) {
        RibLoom x = c.told("jaw 1;jaw 1;jaw 1;jaw 1;jaw 1;clans 0 5;weaves skill;");
        c.due("MEET", 0, x.done(1, 2));
        x.days(1);
        c.due("sails", 1, x.count(5));
    }

    static void promise10GoneOnesRightBeforeAClanGoByEvenIfItWeavesNone(Checks c) {
        RibLoom x = c.told("jaw 0;jaw 0;jaw 9;jaw 0;weaves 0;");
        x.days(1);
        c.due("WEST", 2, x.count(3));
        c.due("EAST", 1, x.count(4));
        c.due("GAPS", 11, x.count(8));
        x.days(1);
        c.due("no sail", 0, x.count(5));
        x.sell(2);
        x.days(1);
        c.due("a sail of gaps alone", 15, x.sail(0, 0));
    }

    static void promise10GoneOnesOnTheWayAreNotCounted(Checks c) {
        RibLoom x = c.told("jaw 9;jaw 0;jaw 0;jaw 9;jaw 9;jaw 9;jaw 0;jaw 9;jaw 9;weaves 2;");
        x.days(1);
        c.due("WEST: 9, two gaps, 9", 4, x.count(3));
        c.due("EAST: 9, 9", 2, x.count(4));
        c.due("GAPS", 6, x.count(8));
    }

    static void promise10BehindTheLastThatCountsAClanStops(Checks c) {
        RibLoom x = c.told("jaw 9;jaw 0;jaw 9;jaw 9;jaw 0;jaw 9;clans 0 0;");
        x.days(1);
        c.due("WEST", 1, x.count(3));
        c.due("EAST", 1, x.count(4));
        c.due("no GAPS yet", 0, x.count(8));
        x.days(1);
        c.due("GAPS of the sail", 18, x.sail(0, 0));
    }

    static void promise10AllGoneWestGoesPastAll(Checks c) {
        RibLoom x = c.told("jaw 0;jaw 0;jaw 0;weaves 0;");
        c.due("MEET", 3, x.done(1, 2));
        x.days(2);
        c.due("a sail each DAY", 2, x.count(5));
        c.due("GAPS", 7, x.sail(0, 0));
    }

    static void promise10ARibThatRotsAwayOnTheDayIsAGap(Checks c) {
        RibLoom x = c.told("rib 1;jaw 9;jaw 9;jaw 9;clans 0 0;");
        x.days(1);
        c.due("WEST", 2, x.count(3));
        c.due("GAPS", 1, x.count(8));
    }

    static void promise10WeavesIsAskedOnceBehindTheGoneOnes(Checks c) {
        RibLoom x = c.told("jaw 0;jaw 2;jaw 5;jaw 5;jaw 5;jaw 5;jaw 5;jaw 1;jaw 0;weaves strength;");
        x.days(1);
        c.due("WEST: a gap and 2", 3, x.count(3));
        c.due("EAST: a gap and 1", 2, x.count(4));
        RibLoom place = c.told("jaw 0;jaw 2;jaw 5;jaw 5;jaw 5;jaw 0;weaves place;");
        place.days(1);
        c.due("WEST at place 1", 1, place.count(5));
        c.due("GAPS", 33, place.sail(0, 0));
    }

    static void promise10LeftIsWhatBothHaveBeforeThem(Checks c) {
        RibLoom x = c.told("jaw 0;jaw 2;jaw 5;jaw 0;jaw 5;jaw 5;jaw 0;weaves left-2;");
        x.days(1);
        c.due("WEST has 4 left: a gap and 2", 3, x.count(3));
        c.due("EAST has 2 left: a gap alone", 1, x.count(4));
    }

    static void promise10SkillOfTheOneWhoAsks(Checks c) {
        RibLoom x = c.told(TWELVE + "clans 0 9;weaves skill;");
        x.days(1);
        c.due("WEST of 0", 0, x.count(3));
        c.due("EAST of 9", 5, x.count(4));
    }

    static void promise10DayOfWeaves(Checks c) {
        RibLoom x = c.told(TWELVE + "weaves day;");
        x.days(1);
        c.due("day 0", 0, x.count(3));
        x.days(1);
        c.due("day 1", 1, x.count(3));
        x.days(1);
        c.due("day 2", 3, x.count(3));
    }

    static void promise10WithoutRibsOnlyTheDayGoesOn(Checks c) {
        RibLoom x = c.told("clans 9 9;verse 1;rots 1;weaves 5;");
        c.due("days(20)", 20, x.days(20));
        c.due("sails", 0, x.count(5));
        c.due("KEPT", 0, x.count(6));
    }
}
