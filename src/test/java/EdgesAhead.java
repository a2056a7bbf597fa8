/** The edges of promises 16 to 21, 26 to 29, 31 and 32: what will be, if only days go by. */
final class EdgesAhead {
    private static final int MIN = Integer.MIN_VALUE;
    private static final int MAX = Integer.MAX_VALUE;
    private static final String GONE_TWELVE = "jaw 0;".repeat(12);

    // One sail is done, behind 60 DAYS, and one behind 61.
    private static final String ON_THE_LAST_DAY = "jaw 1;weaves day=59;";
    private static final String A_DAY_TOO_LATE = "jaw 1;weaves day=60;";

    private static RibLoom onDay999(Checks c, String text) {
        RibLoom x = c.told(text);
        for (int i = 0; i < 49; i++) {
            x.days(20);
        }
        c.due("days(19)", 999, x.days(19));
        return x;
    }

    // GAPS of the sails from now on: rib 0; none; from the third on rib 0 again.
    private static RibLoom gapAndNoneAndGap(Checks c) {
        RibLoom x = c.told("rib 0;jaw 5;rots 1;weaves (0<day)*5;");
        x.days(1);
        x.shore(0, 3);
        return x;
    }

    // ---- promise 16 ----

    static void promise16Behind0To60Days(Checks c) {
        RibLoom x = c.told("rib 61;");
        c.due("then(0, 0)", 61, x.then(0, 0));
        c.due("then(0, 1)", 60, x.then(0, 1));
        c.due("then(0, 60)", 1, x.then(0, 60));
        Watch watch = new Watch(c, x);
        watch.bad("then(0, -1)", () -> x.then(0, -1));
        watch.bad("then(0, 61)", () -> x.then(0, 61));
        watch.bad("then(0, MIN)", () -> x.then(0, MIN));
        watch.bad("then(0, MAX)", () -> x.then(0, MAX));
    }

    static void promise16TheFirstAndTheLastRib(Checks c) {
        RibLoom x = c.told("rib 60;" + "jaw 1;".repeat(10) + "rib 61;");
        c.due("then(0, 60)", 0, x.then(0, 60));
        c.due("then(11, 60)", 1, x.then(11, 60));
        c.none("then(-1, 0)", () -> x.then(-1, 0));
        c.none("then(12, 0)", () -> x.then(12, 0));
        c.none("then(MIN, 0)", () -> x.then(MIN, 0));
        c.none("then(MAX, 0)", () -> x.then(MAX, 0));
    }

    static void promise16NoSuchRibComesAhead(Checks c) {
        RibLoom x = c.told("rib 9;");
        c.none("then(1, 61)", () -> x.then(1, 61));
        c.none("then(-1, -1)", () -> x.then(-1, -1));
    }

    static void promise16DaysGoOnBehindThe999th(Checks c) {
        RibLoom x = onDay999(c, "rib 50;rots (day=1058)*7;");
        c.due("then(0, 59)", 50, x.then(0, 59));
        c.due("then(0, 60)", 43, x.then(0, 60));
    }

    static void promise16NothingChangesByAsking(Checks c) {
        RibLoom x = c.told("rib 9;jaw 1;");
        new Watch(c, x).answers(0, "then(0, 60)", () -> x.then(0, 60));
    }

    // ---- promise 17 ----

    static void promise17Behind0To60Days(Checks c) {
        RibLoom x = c.told("jaw 1;");
        c.due("later(0, 2)", 0, x.later(0, 2));
        c.due("later(60, 2)", 60, x.later(60, 2));
        Watch watch = new Watch(c, x);
        watch.bad("later(-1, 0)", () -> x.later(-1, 0));
        watch.bad("later(61, 3)", () -> x.later(61, 3));
        watch.bad("later(MIN, 1)", () -> x.later(MIN, 1));
        watch.bad("later(MAX, 2)", () -> x.later(MAX, 2));
    }

    static void promise17Behind0DaysItIsAsNow(Checks c) {
        RibLoom x = c.told("jaw 1;jaw 1;jaw 1;jaw 1;jaw 0;clans 4 0;weaves 1+skill/4;");
        x.days(3);
        c.due("WEST", x.count(3), x.later(0, 0));
        c.due("WEST is past", 2, x.later(0, 0));
        c.due("EAST is past", 2, x.later(0, 1));
        c.due("sails", 1, x.later(0, 2));
        c.due("GONE", 16, x.later(0, 3));
    }

    static void promise17WhatIs0To3(Checks c) {
        RibLoom x = c.told("jaw 1;");
        c.none("later(0, -1)", () -> x.later(0, -1));
        c.none("later(0, 4)", () -> x.later(0, 4));
        c.none("later(0, MIN)", () -> x.later(0, MIN));
        c.none("later(0, MAX)", () -> x.later(0, MAX));
    }

    static void promise17AnotherWhatComesAhead(Checks c) {
        RibLoom x = c.told("jaw 1;");
        c.none("later(61, 4)", () -> x.later(61, 4));
        c.none("later(-1, -1)", () -> x.later(-1, -1));
    }

    static void promise17SailsInAllWithThoseDoneBefore(Checks c) {
        RibLoom x = c.told("jaw 1;");
        x.days(20);
        c.due("later(0, 2)", 20, x.later(0, 2));
        c.due("later(60, 2): more than are KEPT", 80, x.later(60, 2));
    }

    static void promise17AllGoneAsBits(Checks c) {
        RibLoom x = c.told("rib 60;".repeat(12) + "rots 1;");
        c.due("behind 59", 0, x.later(59, 3));
        c.due("behind 60", 4095, x.later(60, 3));
    }

    // ---- promise 18 ----

    static void promise18Behind0To60Days(Checks c) {
        c.due("GONE now", 0, c.told("rib 0;").gone(0));
        c.due("a jaw that is GONE now", 0, c.told("jaw 0;").gone(0));
        c.due("1", 1, c.told("rib 1;").gone(0));
        c.due("59", 59, c.told("rib 59;").gone(0));
        c.due("60", 60, c.told("rib 60;").gone(0));
        c.due("61: none", -1, c.told("rib 61;").gone(0));
        c.due("a jaw: none", -1, c.told("jaw 1;").gone(0));
        c.due("one that doesn't rot: none", -1, c.told("rib 1;rots 0;").gone(0));
    }

    static void promise18TheFirstAndTheLastRib(Checks c) {
        RibLoom x = c.told("rib 3;" + "jaw 1;".repeat(10) + "rib 4;");
        c.due("gone(0)", 3, x.gone(0));
        c.due("gone(11)", 4, x.gone(11));
        c.none("gone(-1)", () -> x.gone(-1));
        c.none("gone(12)", () -> x.gone(12));
        c.none("gone(MIN)", () -> x.gone(MIN));
        c.none("gone(MAX)", () -> x.gone(MAX));
    }

    static void promise18FromNowOn(Checks c) {
        RibLoom x = c.told("rib 61;");
        x.days(1);
        c.due("a day later", 60, x.gone(0));
        x.shore(0, 1);
        c.due("shored", -1, x.gone(0));
        x.sell(0);
        c.due("sold", 0, x.gone(0));
    }

    // ---- promise 19 ----

    static void promise19TheFirstAndTheSixtiethSail(Checks c) {
        RibLoom x = c.told("jaw 1;");
        c.due("done(1, 0)", 1, x.done(1, 0));
        c.due("done(60, 0)", 60, x.done(60, 0));
        Watch watch = new Watch(c, x);
        watch.bad("done(0, 0)", () -> x.done(0, 0));
        watch.bad("done(-1, 1)", () -> x.done(-1, 1));
        watch.bad("done(61, 2)", () -> x.done(61, 2));
        watch.bad("done(MIN, 0)", () -> x.done(MIN, 0));
        watch.bad("done(MAX, 0)", () -> x.done(MAX, 0));
    }

    static void promise19WhatIs0To2AndComesAhead(Checks c) {
        RibLoom x = c.told("jaw 1;");
        c.none("done(1, -1)", () -> x.done(1, -1));
        c.none("done(1, 3)", () -> x.done(1, 3));
        c.none("done(0, 3)", () -> x.done(0, 3));
        c.none("done(61, -1)", () -> x.done(61, -1));
    }

    static void promise19OnTheSixtiethDayIsInOneLaterNone(Checks c) {
        RibLoom last = c.told(ON_THE_LAST_DAY);
        c.due("DAYS", 60, last.done(1, 0));
        c.due("GAPS", 0, last.done(1, 1));
        c.due("MEET", 1, last.done(1, 2));
        c.due("no second", -1, last.done(2, 0));
        RibLoom late = c.told(A_DAY_TOO_LATE);
        for (int what = 0; what < 3; what++) {
            c.due("a day too late, what " + what, -1, late.done(1, what));
        }
        late.days(1);
        c.due("a day later", 60, late.done(1, 0));
    }

    static void promise19FromNowOn(Checks c) {
        RibLoom x = c.told("jaw 1;jaw 1;jaw 1;clans 0 0;");
        c.due("the first", 2, x.done(1, 0));
        x.days(1);
        c.due("half woven", 1, x.done(1, 0));
        x.days(1);
        c.due("done before now: the next one", 2, x.done(1, 0));
        c.due("the thirtieth", 60, x.done(30, 0));
        c.due("the thirty-first: none", -1, x.done(31, 0));
    }

    static void promise19GapsOfNoneAndOfAll(Checks c) {
        c.due("none", 0, c.told("jaw 1;".repeat(12) + "weaves 5;").done(1, 1));
        c.due("all", 4095, c.told(GONE_TWELVE).done(1, 1));
    }

    static void promise19MeetFrom0To12(Checks c) {
        c.due("EAST takes all", 0, c.told("jaw 1;jaw 1;clans 0 2;weaves skill;").done(1, 2));
        c.due("WEST takes all", 2, c.told("jaw 1;jaw 1;clans 2 0;weaves skill;").done(1, 2));
        c.due("twelve GAPS, all WEST's", 12, c.told(GONE_TWELVE).done(1, 2));
        c.due("GAPS that WEST went past count, EAST's don't", 3,
            c.told("jaw 0;jaw 0;jaw 1;jaw 1;jaw 0;clans 0 0;").done(1, 2));
    }

    // ---- promise 20 ----

    static void promise20None(Checks c) {
        c.due("without ribs", -1, c.told("verse 1;").widest());
        c.due("none is woven", -1, c.told("jaw 1;weaves 0;").widest());
    }

    static void promise20OnTheSixtiethDayIsInOneLaterNot(Checks c) {
        c.due("the last day", 1, c.told(ON_THE_LAST_DAY).widest());
        c.due("a day too late", -1, c.told(A_DAY_TOO_LATE).widest());
        int[] day = {60, 61};
        int[] due = {2, 1};
        for (int i = 0; i < 2; i++) {
            RibLoom x = c.told("jaw 0;jaw 5;weaves (day=1 or day=" + day[i] + ")*5;");
            x.days(1);
            x.shore(0, 5);
            c.due("the one on the loom has a gap", 1, x.done(1, 1));
            c.due("the one without is done on " + day[i], due[i], x.widest());
        }
    }

    static void promise20OfLikeOnesTheFirst(Checks c) {
        c.due("sixty like ones", 1, c.told("jaw 1;").widest());
        c.due("sixty with a gap each", 1, c.told("jaw 0;jaw 1;").widest());
        c.due("all twelve are gaps", 1, c.told(GONE_TWELVE).widest());
        c.due("gap, none, gap", 2, gapAndNoneAndGap(c).widest());
    }

    static void promise20TheSailOnTheLoomTooFromNowOn(Checks c) {
        RibLoom x = c.told("jaw 1;");
        x.days(5);
        c.due("those done before don't count", 1, x.widest());
    }

    // ---- promise 21 ----

    static void promise21WhatIs0And1(Checks c) {
        RibLoom x = c.told("rib 1;");
        c.due("fall(0)", 0, x.fall(0));
        c.due("fall(1)", 0, x.fall(1));
        c.none("fall(-1)", () -> x.fall(-1));
        c.none("fall(2)", () -> x.fall(2));
        c.none("fall(MIN)", () -> x.fall(MIN));
        c.none("fall(MAX)", () -> x.fall(MAX));
    }

    private static void falls(Checks c, String text, int first, int last) {
        RibLoom x = c.told(text);
        c.due("FALL of " + text, first, x.fall(0));
        c.due("LAST of " + text, last, x.fall(1));
    }

    static void promise21Within60Days(Checks c) {
        falls(c, "rib 59;rib 60;rots 1;", 0, 1);
        falls(c, "rib 60;rib 61;rots 1;", 0, 1);
        falls(c, "rib 61;rib 60;rots 1;", 1, 0);
        falls(c, "rib 61;rib 62;rots 1;", -1, 0);
        falls(c, "rib 60;rib 99;jaw 1;rots 1;", 0, 1);
        falls(c, "rib 1;", 0, 0);
    }

    static void promise21OfLikeOnesTheLeast(Checks c) {
        falls(c, "rib 60;rib 60;rots 1;", 0, 0);
        falls(c, "jaw 7;rib 9;rib 9;rots 1;", 1, 0);
        falls(c, "rib 5;rib 9;rib 5;rib 9;rots 1;", 0, 1);
    }

    static void promise21OnlyThoseThatArentGoneNow(Checks c) {
        falls(c, "rib 0;rib 5;rib 6;rots 1;", 1, 2);
        falls(c, "rib 0;jaw 5;", -1, 1);
        falls(c, "rib 0;jaw 0;", -1, -1);
        falls(c, "", -1, -1);
    }

    static void promise21TheLastOfTwelve(Checks c) {
        falls(c, GONE_TWELVE.substring(6) + "rib 60;rots 1;", 11, 11);
        falls(c, GONE_TWELVE.substring(6) + "rib 61;rots 1;", -1, 11);
    }

    // ---- promise 26 ----

    static void promise26BitsOfRibs(Checks c) {
        RibLoom one = c.told("jaw 0;");
        c.due("dating(0, 0)", -1, one.dating(0, 0));
        c.due("dating(1, 0)", 1, one.dating(1, 0));
        Watch watch = new Watch(c, one);
        watch.bad("dating(-1, 0)", () -> one.dating(-1, 0));
        watch.bad("dating(2, 0)", () -> one.dating(2, 0));
        watch.bad("dating(MIN, 1)", () -> one.dating(MIN, 1));
        watch.bad("dating(MAX, 1)", () -> one.dating(MAX, 1));
        RibLoom twelve = c.told(GONE_TWELVE);
        c.due("dating(4095, 0)", 1, twelve.dating(4095, 0));
        c.bad("dating(4096, 0)", () -> twelve.dating(4096, 0));
    }

    static void promise26WhatIs0And1AndComesAhead(Checks c) {
        RibLoom x = c.told("jaw 0;");
        c.none("dating(0, -1)", () -> x.dating(0, -1));
        c.none("dating(0, 2)", () -> x.dating(0, 2));
        c.none("dating(2, 2)", () -> x.dating(2, 2));
        c.none("dating(-1, -1)", () -> x.dating(-1, -1));
    }

    static void promise26WithoutRibsNoBitsAlone(Checks c) {
        RibLoom x = new RibLoom();
        c.due("dating(0, 1)", -1, x.dating(0, 1));
        c.bad("dating(1, 1)", () -> x.dating(1, 1));
    }

    static void promise26JustThat(Checks c) {
        RibLoom x = c.told("jaw 0;jaw 1;jaw 0;");
        c.due("one less", -1, x.dating(1, 0));
        c.due("just that", 1, x.dating(5, 0));
        c.due("one more", -1, x.dating(7, 0));
    }

    static void promise26TheFirstAndTheLastWithOthersBetween(Checks c) {
        RibLoom x = gapAndNoneAndGap(c);
        c.due("first with the gap", 1, x.dating(1, 0));
        c.due("last with the gap", 60, x.dating(1, 1));
        c.due("first with none", 2, x.dating(0, 0));
        c.due("last with none", 2, x.dating(0, 1));
    }

    static void promise26OnTheSixtiethDayIsInOneLaterNone(Checks c) {
        RibLoom last = c.told(ON_THE_LAST_DAY);
        c.due("first", 1, last.dating(0, 0));
        c.due("last", 1, last.dating(0, 1));
        RibLoom late = c.told(A_DAY_TOO_LATE);
        c.due("no first", -1, late.dating(0, 0));
        c.due("no last", -1, late.dating(0, 1));
    }

    // ---- promise 27 ----

    static void promise27BitsOfRibsBoth(Checks c) {
        RibLoom x = c.told(GONE_TWELVE);
        c.due("before(4095, 4095)", 0, x.before(4095, 4095));
        Watch watch = new Watch(c, x);
        watch.bad("before(4096, 0)", () -> x.before(4096, 0));
        watch.bad("before(0, 4096)", () -> x.before(0, 4096));
        watch.bad("before(-1, 0)", () -> x.before(-1, 0));
        watch.bad("before(0, -1)", () -> x.before(0, -1));
        watch.bad("before(MIN, MAX)", () -> x.before(MIN, MAX));
    }

    static void promise27AheadOfAllWithTheSecond(Checks c) {
        RibLoom x = gapAndNoneAndGap(c);
        c.due("the gap is ahead of none, though behind it, too", 1, x.before(1, 0));
        c.due("none is not ahead of all with the gap", 0, x.before(0, 1));
    }

    static void promise27TheSameSetIsNotAheadOfItself(Checks c) {
        RibLoom x = c.told("jaw 1;");
        c.due("before(0, 0)", 0, x.before(0, 0));
    }

    static void promise27NoneOfOneOrOfBoth(Checks c) {
        RibLoom x = c.told("jaw 1;jaw 1;");
        c.due("none of the first", 0, x.before(1, 0));
        c.due("none of the second", 0, x.before(0, 1));
        c.due("none of both", 0, x.before(1, 2));
    }

    static void promise27Within60Days(Checks c) {
        // The sail on the loom with a gap comes behind 1 DAY, the one without behind 60, or 61.
        int[] day = {60, 61};
        int[] due = {1, 0};
        for (int i = 0; i < 2; i++) {
            RibLoom x = c.told("jaw 0;jaw 5;weaves (day=1 or day=" + day[i] + ")*5;");
            x.days(1);
            x.shore(0, 5);
            c.due("the second on " + day[i], due[i], x.before(1, 0));
            c.due("the other way round", 0, x.before(0, 1));
        }
    }

    // ---- promise 28 ----

    static void promise28Behind0To60Days(Checks c) {
        RibLoom x = c.told("rib 61;jaw 2;rots 1;");
        c.due("strongest(0)", 0, x.strongest(0));
        c.due("strongest(58)", 0, x.strongest(58));
        c.due("strongest(59), of like ones the least", 0, x.strongest(59));
        c.due("strongest(60)", 1, x.strongest(60));
        Watch watch = new Watch(c, x);
        watch.bad("strongest(-1)", () -> x.strongest(-1));
        watch.bad("strongest(61)", () -> x.strongest(61));
        watch.bad("strongest(MIN)", () -> x.strongest(MIN));
        watch.bad("strongest(MAX)", () -> x.strongest(MAX));
    }

    static void promise28OfLikeOnesTheLeast(Checks c) {
        c.due("all like", 0, c.told("jaw 7;".repeat(12)).strongest(60));
        c.due("two like", 1, c.told("jaw 6;jaw 7;jaw 7;").strongest(0));
    }

    static void promise28NoneIfAllAreGone(Checks c) {
        RibLoom x = c.told("rib 60;");
        c.due("behind 59", 0, x.strongest(59));
        c.due("behind 60", -1, x.strongest(60));
        c.due("all gone now", -1, c.told(GONE_TWELVE).strongest(0));
        c.due("all but the last", 11, c.told(GONE_TWELVE.substring(6) + "jaw 1;").strongest(0));
        c.due("without ribs", -1, c.told("").strongest(60));
        c.bad("without ribs, 61", () -> new RibLoom().strongest(61));
    }

    // ---- promise 29 ----

    static void promise29WhatIs0And1(Checks c) {
        RibLoom x = c.told("jaw 1;");
        c.due("span(0)", 1, x.span(0));
        c.due("span(1)", 0, x.span(1));
        c.none("span(-1)", () -> x.span(-1));
        c.none("span(2)", () -> x.span(2));
        c.none("span(MIN)", () -> x.span(MIN));
        c.none("span(MAX)", () -> x.span(MAX));
    }

    private static void spans(Checks c, String text, int many, int first) {
        RibLoom x = c.told(text);
        c.due("how many of " + text, many, x.span(0));
        c.due("the first of " + text, first, x.span(1));
    }

    static void promise29FromNoneToAllTwelve(Checks c) {
        spans(c, "", 0, -1);
        spans(c, "jaw 0;", 0, -1);
        spans(c, GONE_TWELVE, 0, -1);
        spans(c, "jaw 1;".repeat(12), 12, 0);
    }

    static void promise29AtEitherEnd(Checks c) {
        spans(c, "jaw 1;jaw 1;jaw 0;jaw 1;", 2, 0);
        spans(c, "jaw 1;jaw 0;jaw 1;jaw 1;", 2, 2);
        spans(c, GONE_TWELVE.substring(6) + "jaw 1;", 1, 11);
    }

    static void promise29OfLikeOnesTheLeast(Checks c) {
        spans(c, "jaw 0;jaw 1;jaw 1;jaw 0;jaw 1;jaw 1;", 2, 1);
        spans(c, "jaw 1;jaw 0;jaw 1;", 1, 0);
    }

    // ---- promise 31 ----

    static void promise31Behind0To60Days(Checks c) {
        RibLoom x = c.told("rib 99;");
        c.due("lost(0, 0)", 0, x.lost(0, 0));
        c.due("lost(1, 0)", 1, x.lost(1, 0));
        c.due("lost(60, 0)", 60, x.lost(60, 0));
        Watch watch = new Watch(c, x);
        watch.bad("lost(-1, 0)", () -> x.lost(-1, 0));
        watch.bad("lost(61, 1)", () -> x.lost(61, 1));
        watch.bad("lost(MIN, 0)", () -> x.lost(MIN, 0));
        watch.bad("lost(MAX, 1)", () -> x.lost(MAX, 1));
    }

    static void promise31WhatIs0And1AndComesAhead(Checks c) {
        RibLoom x = c.told("rib 99;");
        c.none("lost(0, -1)", () -> x.lost(0, -1));
        c.none("lost(0, 2)", () -> x.lost(0, 2));
        c.none("lost(61, 2)", () -> x.lost(61, 2));
        c.none("lost(-1, -1)", () -> x.lost(-1, -1));
    }

    static void promise31LostFromNoneToAll(Checks c) {
        RibLoom all = c.told("rib 99;".repeat(12) + "rots 20;");
        c.due("behind 4", 12 * 80, all.lost(4, 0));
        c.due("behind 5", 12 * 99, all.lost(5, 0));
        c.due("behind 60", 12 * 99, all.lost(60, 0));
        c.due("jaws", 0, c.told("jaw 99;".repeat(12)).lost(60, 0));
        c.due("gone ones", 0, c.told(GONE_TWELVE).lost(60, 0));
        c.due("without ribs", 0, c.told("").lost(60, 0));
    }

    static void promise31RentOfNoneAndOfAll(Checks c) {
        RibLoom gone = c.told(GONE_TWELVE);
        c.due("in no days", 0, gone.lost(0, 1));
        c.due("in one", 4095, gone.lost(1, 1));
        c.due("no gaps", 0, c.told("jaw 1;").lost(60, 1));
        c.due("no sails", 0, c.told("jaw 0;jaw 1;weaves 0;").lost(60, 1));
        c.due("without ribs", 0, c.told("").lost(60, 1));
    }

    static void promise31RentOfTheLastDayToo(Checks c) {
        RibLoom x = c.told("jaw 0;jaw 1;weaves day=59;");
        c.due("behind 59: on the loom only", 0, x.lost(59, 1));
        c.due("behind 60", 1, x.lost(60, 1));
        c.due("a day too late", 0, c.told("jaw 0;jaw 1;weaves day=60;").lost(60, 1));
    }

    static void promise31RentOfSeveralSailsAndOfThoseFromNowOnAlone(Checks c) {
        // Rib 0 is a gap of the first sail from now on alone, rib 1 of the third one and on.
        RibLoom x = c.told("jaw 0;rib 3;jaw 5;rots 0<day;weaves (0<day)*5;");
        x.days(1);
        x.shore(0, 5);
        c.due("in 1", 1, x.lost(1, 1));
        c.due("in 2", 1, x.lost(2, 1));
        c.due("in 3", 3, x.lost(3, 1));
        x.days(1);
        c.due("a day later in 1", 0, x.lost(1, 1));
        c.due("a day later in 2", 2, x.lost(2, 1));
    }

    // ---- promise 32 ----

    static void promise32Clans0And1(Checks c) {
        RibLoom x = c.told("jaw 1;clans 0 9;");
        c.due("pace(0)", 1, x.pace(0));
        c.due("pace(1)", 3, x.pace(1));
        c.none("pace(-1)", () -> x.pace(-1));
        c.none("pace(2)", () -> x.pace(2));
        c.none("pace(MIN)", () -> x.pace(MIN));
        c.none("pace(MAX)", () -> x.pace(MAX));
    }

    static void promise32KeptTo0To5(Checks c) {
        String[] rules = {"0-9999", "0-1", "0", "1", "4", "5", "6", "9999"};
        int[] due = {0, 0, 0, 1, 4, 5, 5, 5};
        for (int i = 0; i < rules.length; i++) {
            RibLoom x = c.told("jaw 1;weaves " + rules[i] + ";");
            c.due("WEST, weaves " + rules[i], due[i], x.pace(0));
            c.due("EAST, weaves " + rules[i], due[i], x.pace(1));
        }
    }

    static void promise32WithoutWeaves1AndSkillBy4(Checks c) {
        int[] due = {1, 1, 1, 1, 2, 2, 2, 2, 3, 3};
        for (int skill = 0; skill <= 9; skill++) {
            RibLoom x = c.told("jaw 1;clans " + skill + " " + (9 - skill) + ";");
            c.due("WEST of " + skill, due[skill], x.pace(0));
            c.due("EAST of " + (9 - skill), due[9 - skill], x.pace(1));
        }
    }

    static void promise32NoneBeforeIt(Checks c) {
        RibLoom[] looms = {new RibLoom(), c.told("jaw 0;"), c.told(GONE_TWELVE + "weaves 5;"),
            c.told("jaw 3;jaw 0;jaw 0;jaw 3;weaves 1;")};
        looms[3].days(1);
        c.due("only gone ones are between them", 1, looms[3].count(3));
        for (RibLoom x : looms) {
            c.due("WEST", 0, x.pace(0));
            c.due("EAST", 0, x.pace(1));
        }
    }

    static void promise32AtTheFirstThatIsntGone(Checks c) {
        String ribs = "jaw 0;jaw 0;jaw 2;jaw 9;jaw 4;jaw 0;";
        RibLoom strength = c.told(ribs + "weaves strength;");
        c.due("strength before WEST", 2, strength.pace(0));
        c.due("strength before EAST", 4, strength.pace(1));
        RibLoom place = c.told(ribs + "weaves place-1;");
        c.due("place before WEST", 1, place.pace(0));
        c.due("place before EAST", 3, place.pace(1));
        RibLoom left = c.told(ribs + "weaves left;");
        c.due("left of WEST", 3, left.pace(0));
        c.due("left of EAST", 3, left.pace(1));
    }

    static void promise32NowOnThisDay(Checks c) {
        RibLoom x = c.told("jaw 1;weaves day;");
        c.due("day 0", 0, x.pace(0));
        x.days(1);
        c.due("day 1", 1, x.pace(0));
        RibLoom last = onDay999(c, "jaw 1;weaves day-996;");
        c.due("day 999", 3, last.pace(1));
    }

    static void promise32AskingGoesPastNone(Checks c) {
        RibLoom x = c.told("jaw 0;jaw 3;");
        new Watch(c, x).answers(1, "pace(0)", () -> x.pace(0));
    }
}
