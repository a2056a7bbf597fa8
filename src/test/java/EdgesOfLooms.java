/** The edges of promises 5 to 15 but for what happens on a DAY: what there is, ACTS, and what is undone. */
final class EdgesOfLooms {
    private static final int ACTS = 1;

    // ---- promise 5 ----

    static void promise5WhatIs0To15(Checks c) {
        RibLoom x = c.told("rib 7;");
        c.due("count(0)", 1, x.count(0));
        c.due("count(15)", 0, x.count(15));
        c.none("count(-1)", () -> x.count(-1));
        c.none("count(16)", () -> x.count(16));
        c.none("count(MIN)", () -> x.count(Integer.MIN_VALUE));
        c.none("count(MAX)", () -> x.count(Integer.MAX_VALUE));
    }

    static void promise5RibsAndVersesAtTheirMost(Checks c) {
        RibLoom x = c.told("jaw 0;".repeat(12) + "verse 1;".repeat(8));
        c.due("RIBS", 12, x.count(0));
        c.due("verses", 8, x.count(1));
        c.due("GONE", 4095, x.count(7));
    }

    static void promise5PastNoneAndAllButOne(Checks c) {
        RibLoom x = c.told("jaw 1;jaw 1;jaw 1;jaw 1;clans 9 0;weaves (skill=9)*3;");
        c.due("WEST at the end", 0, x.count(3));
        c.due("EAST at the end", 0, x.count(4));
        x.days(1);
        c.due("WEST", 3, x.count(3));
        c.due("EAST", 0, x.count(4));
        x.days(1);
        c.due("WEST anew", 0, x.count(3));
        c.due("a sail", 1, x.count(5));
    }

    static void promise5NineSailsAreKeptAllAreCounted(Checks c) {
        RibLoom x = c.told("jaw 1;");
        x.days(8);
        c.due("KEPT of 8", 8, x.count(6));
        x.days(1);
        c.due("KEPT of 9", 9, x.count(6));
        x.days(1);
        c.due("KEPT of 10", 9, x.count(6));
        c.due("all", 10, x.count(5));
    }

    static void promise5GoneNowAsBits(Checks c) {
        RibLoom x = c.told("jaw 1;jaw 2;jaw 3;");
        c.due("none", 0, x.count(7));
        x.sell(0);
        c.due("the first", 1, x.count(7));
        x.sell(2);
        c.due("the last", 5, x.count(7));
        x.sell(1);
        c.due("all", 7, x.count(7));
        x.shore(2, 1);
        c.due("one is back", 3, x.count(7));
    }

    static void promise5GapsAreThoseGoneWhenAClanWentPast(Checks c) {
        RibLoom x = c.told("jaw 0;jaw 9;jaw 9;jaw 9;jaw 9;jaw 0;clans 0 0;");
        c.due("none so far", 0, x.count(8));
        x.days(1);
        c.due("both ends", 33, x.count(8));
        x.sell(1);
        c.due("one that a clan is past is no gap", 33, x.count(8));
        x.shore(0, 9);
        c.due("one that was a gap stays one", 33, x.count(8));
        x.days(1);
        c.due("anew", 0, x.count(8));
        c.due("of the sail", 33, x.sail(0, 0));
    }

    static void promise5Kinds(Checks c) {
        c.due("without verses", 0, c.told("jaw 1;").count(9));
        c.due("one verse", 1, c.told("jaw 1;verse 1;").count(9));
        c.due("without ribs all are alike", 1, c.told("verse 1;verse 2;verse 4;").count(9));
        RibLoom x = c.told("jaw 1;jaw 1;jaw 1;verse 0;verse 1;verse 2;verse 3;verse 4;verse 5;verse 6;verse 7;");
        c.due("eight", 8, x.count(9));
        x.sell(0);
        c.due("four", 4, x.count(9));
        x.sell(1);
        x.sell(2);
        c.due("all are gone", 1, x.count(9));
    }

    static void promise5TheFullTapeTheFullSeenTheFullActs(Checks c) {
        RibLoom x = c.told("jaw 1;");
        Checks.feed(x, " ".repeat(700));
        for (int i = 0; i < 9; i++) {
            x.see(0, 0, false);
        }
        for (int i = 0; i < 41; i++) {
            x.shore(0, 1);
        }
        c.due("ACTS", 40, x.count(10));
        c.due("SEEN", 8, x.count(11));
        c.due("tape", 700, x.count(12));
    }

    static void promise5EachStatusCountsItsOwn(Checks c) {
        RibLoom x = c.told("jaw 1;");
        Checks.tell(x, "rob");
        for (int i = 0; i < 2; i++) {
            x.unpick();
        }
        for (int i = 0; i < 3; i++) {
            x.see(0, 21, true);
        }
        c.due("TEXTS", 1, x.count(13));
        c.due("ACTS", 2, x.count(14));
        c.due("what is SEEN", 3, x.count(15));
    }

    // ---- promise 6 ----

    static void promise6TheFirstAndTheLastRib(Checks c) {
        RibLoom x = c.told("rib 0;" + "rib 5;".repeat(10) + "jaw 99;");
        c.due("rib(0, 0)", 0, x.rib(0, 0));
        c.due("rib(11, 0)", 99, x.rib(11, 0));
        c.due("rib(0, 1)", 0, x.rib(0, 1));
        c.due("rib(11, 1)", 1, x.rib(11, 1));
        c.none("rib(-1, 0)", () -> x.rib(-1, 0));
        c.none("rib(12, 0)", () -> x.rib(12, 0));
        c.none("rib(MIN, 0)", () -> x.rib(Integer.MIN_VALUE, 0));
        c.none("rib(MAX, 0)", () -> x.rib(Integer.MAX_VALUE, 0));
        c.none("one behind the last", () -> c.told("rib 1;").rib(1, 0));
    }

    static void promise6WhatIs0To3(Checks c) {
        RibLoom x = c.told("rib 7;verse 1;");
        c.due("rib(0, 0)", 7, x.rib(0, 0));
        c.due("rib(0, 3)", 1, x.rib(0, 3));
        c.none("rib(0, -1)", () -> x.rib(0, -1));
        c.none("rib(0, 4)", () -> x.rib(0, 4));
        c.none("rib(1, 4)", () -> x.rib(1, 4));
    }

    static void promise6PastOfTheOutermostRibs(Checks c) {
        RibLoom x = c.told("jaw 1;jaw 1;jaw 1;jaw 1;jaw 1;clans 4 0;");
        int[][] due = {{0, 0, 0, 0, 0}, {1, 1, 0, 0, 1}, {0, 0, 0, 0, 0}};
        for (int d = 0; d < 3; d++) {
            for (int r = 0; r < 5; r++) {
                c.due("rib(" + r + ", 2) on day " + d, due[d][r], x.rib(r, 2));
            }
            x.days(1);
        }
    }

    static void promise6VersesOverARib(Checks c) {
        c.due("without verses", 0, c.told("jaw 1;").rib(0, 3));
        RibLoom x = c.told("jaw 1;jaw 0;jaw 1;" + "verse 3;".repeat(7) + "verse 2;");
        c.due("all but the last", 127, x.rib(0, 3));
        c.due("all eight over a gone one", 255, x.rib(1, 3));
        c.due("none", 0, x.rib(2, 3));
    }

    // ---- promise 7 ----

    static void promise7TheFirstAndTheLastVerse(Checks c) {
        RibLoom x = c.told("verse 0;" + "verse 5;".repeat(6) + "verse 4095;");
        c.due("verse(0, 0)", 0, x.verse(0, 0));
        c.due("verse(7, 0)", 4095, x.verse(7, 0));
        c.none("verse(-1, 0)", () -> x.verse(-1, 0));
        c.none("verse(8, 0)", () -> x.verse(8, 0));
        c.none("verse(MIN, 0)", () -> x.verse(Integer.MIN_VALUE, 0));
        c.none("verse(MAX, 0)", () -> x.verse(Integer.MAX_VALUE, 0));
        c.none("one behind the last", () -> c.told("verse 1;").verse(1, 0));
    }

    static void promise7WhatIs0To3(Checks c) {
        RibLoom x = c.told("verse 7;");
        c.due("verse(0, 0)", 7, x.verse(0, 0));
        c.due("verse(0, 3)", 1, x.verse(0, 3));
        c.none("verse(0, -1)", () -> x.verse(0, -1));
        c.none("verse(0, 4)", () -> x.verse(0, 4));
        c.none("verse(1, 4)", () -> x.verse(1, 4));
    }

    static void promise7TheThrowWithoutRibsThatAreGoneOrThatThereArent(Checks c) {
        RibLoom x = c.told("jaw 1;jaw 0;jaw 1;verse 4095;");
        c.due("verse(0, 0)", 4095, x.verse(0, 0));
        c.due("verse(0, 1)", 5, x.verse(0, 1));
        c.due("without ribs", 0, c.told("verse 4095;").verse(0, 1));
        c.due("all twelve", 4095, c.told("jaw 1;".repeat(12) + "verse 4095;").verse(0, 1));
    }

    static void promise7AFloatFrom0To12(Checks c) {
        c.due("all gone", 0, c.told("jaw 0;jaw 0;verse 3;").verse(0, 2));
        c.due("without ribs", 0, c.told("verse 4095;").verse(0, 2));
        c.due("one", 1, c.told("jaw 1;verse 0;").verse(0, 2));
        c.due("all over", 12, c.told("jaw 1;".repeat(12) + "verse 4095;").verse(0, 2));
        c.due("all under", 12, c.told("jaw 1;".repeat(12) + "verse 0;").verse(0, 2));
        c.due("by turns", 1, c.told("jaw 1;".repeat(12) + "verse 1365;").verse(0, 2));
    }

    static void promise7AFloatAtEitherEndAndAcrossGoneOnes(Checks c) {
        c.due("at the end", 3, c.told("jaw 1;jaw 1;jaw 1;jaw 1;verse 14;").verse(0, 2));
        c.due("at the beginning", 3, c.told("jaw 1;jaw 1;jaw 1;jaw 1;verse 7;").verse(0, 2));
        c.due("across one that is gone", 4, c.told("jaw 1;jaw 1;jaw 0;jaw 1;jaw 1;verse 27;").verse(0, 2));
        c.due("ribs that there aren't go on with none", 1, c.told("jaw 1;jaw 1;verse 1;").verse(0, 2));
    }

    static void promise7AlikeItselfTooAndAll(Checks c) {
        c.due("itself", 1, c.told("jaw 1;verse 1;verse 0;").verse(0, 3));
        c.due("itself, the last", 128, c.told("jaw 1;" + "verse 0;".repeat(7) + "verse 1;").verse(7, 3));
        c.due("all eight", 255, c.told("jaw 1;" + "verse 1;".repeat(8)).verse(7, 3));
        c.due("all gone: all", 7, c.told("jaw 0;verse 0;verse 1;verse 2;").verse(1, 3));
        c.due("by ribs that there aren't: alike", 3, c.told("jaw 1;verse 1;verse 3;").verse(0, 3));
    }

    // ---- promise 8 ----

    static void promise8NoneAheadOfTheFirst(Checks c) {
        RibLoom x = c.told("jaw 1;jaw 1;jaw 1;clans 0 0;");
        c.none("sail(0, 0)", () -> x.sail(0, 0));
        x.days(1);
        c.none("sail(0, 0), half woven", () -> x.sail(0, 0));
        x.days(1);
        c.due("sail(0, 0)", 0, x.sail(0, 0));
        c.due("sail(0, 1)", 1, x.sail(0, 1));
        c.none("sail(1, 0)", () -> x.sail(1, 0));
    }

    static void promise8TheLatestNine(Checks c) {
        RibLoom x = c.told("jaw 1;");
        x.days(9);
        for (int i = 0; i < 9; i++) {
            c.due("DAY of sail " + i, 8 - i, x.sail(i, 1));
        }
        x.days(1);
        for (int i = 0; i < 9; i++) {
            c.due("DAY of sail " + i + ", one later", 9 - i, x.sail(i, 1));
        }
        c.none("sail(9, 1)", () -> x.sail(9, 1));
        c.none("sail(-1, 1)", () -> x.sail(-1, 1));
        c.none("sail(MIN, 1)", () -> x.sail(Integer.MIN_VALUE, 1));
        c.none("sail(MAX, 1)", () -> x.sail(Integer.MAX_VALUE, 1));
    }

    static void promise8WhatIs0And1(Checks c) {
        RibLoom x = c.told("jaw 0;jaw 0;");
        x.days(3);
        c.due("GAPS", 3, x.sail(0, 0));
        c.due("DAY", 2, x.sail(0, 1));
        c.none("sail(0, -1)", () -> x.sail(0, -1));
        c.none("sail(0, 2)", () -> x.sail(0, 2));
    }

    static void promise8GapsOfNoneAndOfAll(Checks c) {
        RibLoom x = c.told("jaw 9;".repeat(12) + "weaves 5;");
        x.days(2);
        c.due("none", 0, x.sail(0, 0));
        for (int r = 0; r < 12; r++) {
            x.sell(r);
        }
        x.days(1);
        c.due("all", 4095, x.sail(0, 0));
        c.due("the one before", 0, x.sail(1, 0));
    }

    static void promise8NineWithGapsOfTheirOwn(Checks c) {
        RibLoom x = c.told("jaw 1;jaw 1;jaw 1;jaw 1;weaves 5;");
        for (int gaps = 0; gaps < 12; gaps++) {
            for (int r = 0; r < 4; r++) {
                boolean gone = (x.count(7) >> r & 1) == 1;
                if (gone != ((gaps >> r & 1) == 1)) {
                    c.due("sell or shore", 1, gone ? x.shore(r, 1) : x.sell(r));
                }
            }
            x.days(1);
        }
        for (int i = 0; i < 9; i++) {
            c.due("GAPS of sail " + i, 11 - i, x.sail(i, 0));
            c.due("DAY of sail " + i, 11 - i, x.sail(i, 1));
        }
    }

    // ---- promise 9 ----

    static void promise9Clans0And1(Checks c) {
        RibLoom x = c.told("clans 0 9;");
        c.due("skill(0)", 0, x.skill(0));
        c.due("skill(1)", 9, x.skill(1));
        c.none("skill(-1)", () -> x.skill(-1));
        c.none("skill(2)", () -> x.skill(2));
        c.none("skill(MIN)", () -> x.skill(Integer.MIN_VALUE));
        c.none("skill(MAX)", () -> x.skill(Integer.MAX_VALUE));
    }

    // ---- promise 11 ----

    static void promise11StrengthFrom1To99(Checks c) {
        RibLoom x = c.told("rib 1;jaw 99;rib 5;");
        c.due("sell(0)", 1, x.sell(0));
        c.due("sell(1), a jaw", 99, x.sell(1));
        c.due("sell(2)", 5, x.sell(2));
        c.due("GONE", 7, x.count(7));
        c.due("ACTS", 3, x.count(10));
    }

    static void promise11OneThatIsGoneIsRefused(Checks c) {
        RibLoom x = c.told("rib 0;rib 5;");
        new Watch(c, x).refused(ACTS, "sell(0)", () -> x.sell(0));
        x.sell(1);
        new Watch(c, x).refused(ACTS, "sell(1) again", () -> x.sell(1));
        c.due("undo()", 0, x.undo());
        c.due("strength", 5, x.rib(1, 0));
    }

    static void promise11NoSuchRib(Checks c) {
        RibLoom x = c.told("rib 4;rib 5;");
        Watch watch = new Watch(c, x);
        watch.none("sell(-1)", () -> x.sell(-1));
        watch.none("sell(2)", () -> x.sell(2));
        watch.none("sell(MIN)", () -> x.sell(Integer.MIN_VALUE));
        watch.none("sell(MAX)", () -> x.sell(Integer.MAX_VALUE));
    }

    // ---- promise 12 ----

    static void promise12From1To30(Checks c) {
        RibLoom x = c.told("jaw 10;rib 10;");
        c.due("shore(0, 1)", 11, x.shore(0, 1));
        c.due("shore(1, 30)", 40, x.shore(1, 30));
        Watch watch = new Watch(c, x);
        watch.refused(ACTS, "shore(0, 0)", () -> x.shore(0, 0));
        watch.refused(ACTS, "shore(0, 31)", () -> x.shore(0, 31));
        watch.refused(ACTS, "shore(0, -1)", () -> x.shore(0, -1));
        watch.refused(ACTS, "shore(0, MIN)", () -> x.shore(0, Integer.MIN_VALUE));
        watch.refused(ACTS, "shore(0, MAX)", () -> x.shore(0, Integer.MAX_VALUE));
    }

    static void promise12NinetyNineAtMost(Checks c) {
        RibLoom x = c.told("jaw 68;jaw 69;jaw 70;jaw 99;");
        c.due("68 and 30", 98, x.shore(0, 30));
        c.due("69 and 30", 99, x.shore(1, 30));
        c.due("70 and 30", 99, x.shore(2, 30));
        c.due("99 and 1 is an ACT, too", 99, x.shore(3, 1));
        c.due("ACTS", 4, x.count(10));
        c.due("STATUS", 0, x.count(14));
        x.undo();
        x.undo();
        c.due("70 again", 70, x.rib(2, 0));
    }

    static void promise12OneThatIsGoneIsBack(Checks c) {
        RibLoom x = c.told("rib 0;");
        c.due("shore(0, 1)", 1, x.shore(0, 1));
        c.due("GONE", 0, x.count(7));
        x.days(1);
        c.due("GONE again", 1, x.count(7));
        c.due("shore(0, 30)", 30, x.shore(0, 30));
    }

    static void promise12NoSuchRibComesAhead(Checks c) {
        RibLoom x = c.told("rib 4;rib 5;");
        Watch watch = new Watch(c, x);
        watch.none("shore(-1, 1)", () -> x.shore(-1, 1));
        watch.none("shore(2, 1)", () -> x.shore(2, 1));
        watch.none("shore(2, 0)", () -> x.shore(2, 0));
        watch.none("shore(-1, 31)", () -> x.shore(-1, 31));
    }

    // ---- promise 13 ----

    static void promise13NoneIsPastIsRefused(Checks c) {
        RibLoom empty = new RibLoom();
        new Watch(c, empty).refused(ACTS, "unpick() without ribs", empty::unpick);
        RibLoom x = c.told("jaw 1;jaw 1;jaw 1;clans 0 0;");
        new Watch(c, x).refused(ACTS, "unpick() at the ends", x::unpick);
        x.days(2);
        c.due("a sail", 1, x.count(5));
        new Watch(c, x).refused(ACTS, "unpick() of a sail that is done", x::unpick);
        x.days(1);
        c.due("unpick()", 2, x.unpick());
        new Watch(c, x).refused(ACTS, "unpick() again", x::unpick);
    }

    static void promise13OneIsEnough(Checks c) {
        RibLoom west = c.told("jaw 1;jaw 1;jaw 1;clans 4 0;weaves skill/4;");
        west.days(1);
        c.due("WEST alone", 1, west.unpick());
        RibLoom east = c.told("jaw 1;jaw 1;jaw 1;clans 0 4;weaves skill/4;");
        east.days(1);
        c.due("EAST alone", 1, east.unpick());
        RibLoom gap = c.told("jaw 0;jaw 1;weaves 0;");
        gap.days(1);
        c.due("a gap alone", 1, gap.unpick());
        c.due("GAPS", 0, gap.count(8));
    }

    static void promise13AllButOne(Checks c) {
        RibLoom x = c.told("jaw 1;".repeat(11) + "weaves 5;");
        x.days(1);
        c.due("unpick()", 10, x.unpick());
        c.due("WEST", 0, x.count(3));
        c.due("EAST", 0, x.count(4));
        c.due("DAY", 1, x.count(2));
        c.due("sails", 0, x.count(5));
        c.due("undo()", 1, x.undo());
        c.due("WEST again", 5, x.count(3));
        c.due("EAST again", 5, x.count(4));
    }

    // ---- promise 14 ----

    static void promise14From0To9(Checks c) {
        RibLoom x = new RibLoom();
        c.due("teach(0, 0)", 3, x.teach(0, 0));
        c.due("teach(0, 9)", 0, x.teach(0, 9));
        c.due("teach(1, 9)", 3, x.teach(1, 9));
        c.due("teach(1, 0)", 9, x.teach(1, 0));
        Watch watch = new Watch(c, x);
        for (int clan = 0; clan < 2; clan++) {
            int which = clan;
            watch.refused(ACTS, "teach(" + clan + ", -1)", () -> x.teach(which, -1));
            watch.refused(ACTS, "teach(" + clan + ", 10)", () -> x.teach(which, 10));
            watch.refused(ACTS, "teach(" + clan + ", MIN)", () -> x.teach(which, Integer.MIN_VALUE));
            watch.refused(ACTS, "teach(" + clan + ", MAX)", () -> x.teach(which, Integer.MAX_VALUE));
        }
    }

    static void promise14WhatIsSoIsRefused(Checks c) {
        RibLoom x = c.told("clans 0 9;");
        Watch watch = new Watch(c, x);
        watch.refused(ACTS, "teach(0, 0)", () -> x.teach(0, 0));
        watch.refused(ACTS, "teach(1, 9)", () -> x.teach(1, 9));
        c.due("teach(0, 9): only its own skill counts", 0, x.teach(0, 9));
        c.due("teach(1, 0)", 9, x.teach(1, 0));
    }

    static void promise14NoSuchClanComesAhead(Checks c) {
        RibLoom x = new RibLoom();
        Watch watch = new Watch(c, x);
        watch.none("teach(-1, 5)", () -> x.teach(-1, 5));
        watch.none("teach(2, 5)", () -> x.teach(2, 5));
        watch.none("teach(2, 10)", () -> x.teach(2, 10));
        watch.none("teach(-1, -1)", () -> x.teach(-1, -1));
    }

    // ---- promise 15 ----

    static void promise15WithoutAnActNoneAndNoStatus(Checks c) {
        RibLoom x = c.told("rib 9;");
        Watch watch = new Watch(c, x);
        watch.answers(-1, "undo()", x::undo);
        x.days(1);
        c.due("undo()", 0, x.undo());
        watch.answers(-1, "undo() again", x::undo);
    }

    static void promise15FortyAreKeptTheLatestOnes(Checks c) {
        RibLoom x = c.told("jaw 1;");
        for (int i = 1; i <= 40; i++) {
            x.shore(0, 1);
            c.due("ACTS", i, x.count(10));
        }
        x.shore(0, 1);
        c.due("ACTS of 41", 40, x.count(10));
        for (int left = 39; left >= 0; left--) {
            c.due("undo()", left, x.undo());
            c.due("strength", 2 + left, x.rib(0, 0));
        }
        c.due("the first one stays", -1, x.undo());
        c.due("strength", 2, x.rib(0, 0));
    }

    static void promise15FortyAreAllUndone(Checks c) {
        RibLoom x = c.told("jaw 1;");
        for (int i = 0; i < 40; i++) {
            x.shore(0, 1);
        }
        for (int left = 39; left >= 0; left--) {
            c.due("undo()", left, x.undo());
        }
        c.due("strength", 1, x.rib(0, 0));
    }

    static void promise15TheLastOneFirst(Checks c) {
        RibLoom x = c.told("rib 50;jaw 9;jaw 9;jaw 9;clans 0 0;");
        x.days(1);
        x.unpick();
        x.sell(1);
        x.shore(0, 30);
        x.teach(1, 9);
        c.due("undo() the skill", 4, x.undo());
        c.due("skill", 0, x.skill(1));
        c.due("shored still", 79, x.rib(0, 0));
        c.due("undo() the shoring", 3, x.undo());
        c.due("strength", 49, x.rib(0, 0));
        c.due("sold still", 0, x.rib(1, 0));
        c.due("undo() the sale", 2, x.undo());
        c.due("strength of 1", 9, x.rib(1, 0));
        c.due("unpicked still", 0, x.count(3));
        c.due("undo() the unpicking", 1, x.undo());
        c.due("WEST", 1, x.count(3));
        c.due("EAST", 1, x.count(4));
        c.due("undo() the day", 0, x.undo());
        c.due("DAY", 0, x.count(2));
        c.due("strength at first", 50, x.rib(0, 0));
    }

    /** All of it unlike: 3 and 1 are past, GAPS 18, DAY 15, 13 sails, 9 KEPT with other GAPS, SKILL 1 and 7. */
    static RibLoom unlikeInAll(Checks c) {
        RibLoom x = c.told("jaw 9;jaw 8;jaw 7;jaw 6;rib 99;clans 5 7;weaves skill*(place<3 or 14<day);");
        x.days(10);
        for (int r = 0; r < 2; r++) {
            x.sell(r);
            x.days(1);
        }
        x.shore(0, 5);
        x.days(1);
        x.sell(4);
        x.teach(0, 1);
        x.days(2);
        int[] due = {5, 0, 15, 3, 1, 13, 9, 18, 18, 0, 10, 0, 0, 0, 0, 0};
        for (int what = 0; what < 16; what++) {
            c.due("count(" + what + ")", due[what], x.count(what));
        }
        int[] gaps = {2, 3, 1, 0, 0, 0, 0, 0, 0};
        for (int i = 0; i < 9; i++) {
            c.due("GAPS of sail " + i, gaps[i], x.sail(i, 0));
        }
        return x;
    }

    static void promise15AllIsAsItWas(Checks c) {
        RibLoom x = unlikeInAll(c);
        Checks.Call[] acts = {() -> x.days(1), () -> x.days(20), () -> x.sell(2), () -> x.shore(1, 30), x::unpick,
            () -> x.teach(0, 9), () -> x.teach(1, 0)};
        for (int i = 0; i < acts.length; i++) {
            Checks.Call act = acts[i];
            new Watch(c, x).answers(10, "act " + i + " and undo()", () -> {
                act.answer();
                return x.undo();
            });
        }
    }

    static void promise15ASailThatFellOutIsKeptAgain(Checks c) {
        RibLoom x = c.told("jaw 1;");
        x.days(9);
        x.days(20);
        c.due("DAY of the ninth", 20, x.sail(8, 1));
        c.due("undo()", 1, x.undo());
        c.due("sails", 9, x.count(5));
        c.due("DAY of the ninth again", 0, x.sail(8, 1));
        c.due("DAY of the latest again", 8, x.sail(0, 1));
        x.undo();
        c.due("KEPT", 0, x.count(6));
        c.none("sail(0, 0)", () -> x.sail(0, 0));
    }

    static void promise15GapsOfTheSailOnTheLoomAreBack(Checks c) {
        RibLoom x = c.told("jaw 0;jaw 1;jaw 1;jaw 1;clans 0 0;");
        x.days(1);
        c.due("GAPS", 1, x.count(8));
        x.unpick();
        x.undo();
        c.due("GAPS again", 1, x.count(8));
        x.days(1);
        c.due("done", 1, x.count(5));
        x.undo();
        c.due("GAPS once more", 1, x.count(8));
        c.due("WEST", 2, x.count(3));
    }

    static void promise15WhatIsSeenAndStatusAndTheImageStay(Checks c) {
        RibLoom x = c.told("jaw 1;");
        x.days(1);
        x.see(0, 0, false);
        x.days(0);
        x.see(0, 21, true);
        x.image();
        x.undo();
        c.due("SEEN", 1, x.count(11));
        c.due("STATUS 1", 1, x.count(14));
        c.due("STATUS 2", 1, x.count(15));
        c.due("restore()", 1, x.restore() ? 1 : 0);
        c.due("the ACT is back", 1, x.count(10));
    }

    static void promise15RefusedOnesAreNoActs(Checks c) {
        RibLoom x = c.told("jaw 1;jaw 0;");
        x.shore(0, 5);
        x.shore(0, 31);
        x.sell(1);
        x.days(21);
        x.unpick();
        x.teach(0, 3);
        c.due("undo()", 0, x.undo());
        c.due("strength", 1, x.rib(0, 0));
    }
}
