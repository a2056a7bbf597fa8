/** The edges of promises 22 to 25, 30 and 33: the verses, on the ribs that are left. */
final class EdgesOfSongs {
    private static final int MIN = Integer.MIN_VALUE;
    private static final int MAX = Integer.MAX_VALUE;
    private static final String TWELVE = "jaw 9;".repeat(12);
    private static final String GONE_TWELVE = "jaw 0;".repeat(12);

    // ---- promise 22 ----

    static void promise22NoneIsNeeded(Checks c) {
        c.due("without ribs and verses", 0, c.told("").toTell());
        c.due("without ribs", 0, c.told("verse 1;verse 2;").toTell());
        c.due("without verses", 0, c.told(TWELVE).toTell());
        c.due("one verse", 0, c.told(TWELVE + "verse 4095;").toTell());
        c.due("eight like ones", 0, c.told(TWELVE + "verse 7;".repeat(8)).toTell());
        c.due("all ribs are gone", 0, c.told(GONE_TWELVE + "verse 0;verse 4095;").toTell());
        c.due("unlike by ribs that there aren't alone", 0, c.told("jaw 1;verse 0;verse 2;").toTell());
    }

    static void promise22TheFirstAndTheLastRib(Checks c) {
        c.due("the first", 1, c.told(TWELVE + "verse 0;verse 1;").toTell());
        c.due("the last", 2048, c.told(TWELVE + "verse 0;verse 2048;").toTell());
        c.due("both", 2049, c.told(TWELVE + "verse 0;verse 1;verse 2048;").toTell());
    }

    static void promise22SevenAtMost(Checks c) {
        String song = "verse 0;verse 32;verse 64;verse 128;verse 256;verse 512;verse 1024;verse 2048;";
        c.due("one rib for each verse but the first", 4064, c.told(TWELVE + song).toTell());
        c.due("all ribs that there are", 127, c.told("jaw 1;".repeat(7)
            + "verse 0;verse 1;verse 2;verse 4;verse 8;verse 16;verse 32;verse 64;").toTell());
    }

    static void promise22OfAsFewTheLeastAsBits(Checks c) {
        c.due("any rib", 1, c.told(TWELVE + "verse 0;verse 4095;").toTell());
        c.due("any two of three", 3, c.told(TWELVE + "verse 0;verse 3;verse 5;verse 6;").toTell());
        c.due("fewer count more than less: rib 11 alone", 2048, c.told(TWELVE + "verse 7;verse 2055;").toTell());
        // Ribs 0 and 1 need a third one; ribs 2 and 3 are enough.
        c.due("two high ones for three low ones", 12,
            c.told("jaw 1;jaw 1;jaw 1;jaw 1;verse 0;verse 5;verse 8;verse 14;").toTell());
    }

    static void promise22OnlyRibsThatArentGone(Checks c) {
        RibLoom x = c.told("jaw 1;jaw 1;jaw 1;verse 0;verse 7;");
        c.due("rib 0", 1, x.toTell());
        x.sell(0);
        c.due("rib 1", 2, x.toTell());
        x.sell(1);
        c.due("rib 2", 4, x.toTell());
        x.sell(2);
        c.due("none", 0, x.toTell());
    }

    // ---- promise 23 ----

    static void promise23NoneIfAllAreGone(Checks c) {
        c.due("without ribs", -1, c.told("verse 1;").missed());
        c.due("all gone", -1, c.told(GONE_TWELVE + "verse 1;").missed());
        c.due("all but the last", 11, c.told(GONE_TWELVE.substring(6) + "jaw 1;verse 1;").missed());
    }

    static void promise23OfLikeOnesTheLeast(Checks c) {
        c.due("without verses", 0, c.told(TWELVE).missed());
        c.due("one verse", 0, c.told(TWELVE + "verse 4095;").missed());
        c.due("none tells apart alone", 0, c.told(TWELVE + "verse 0;verse 4095;").missed());
        c.due("the least that isn't gone", 2, c.told("jaw 0;jaw 0;jaw 1;jaw 1;verse 0;verse 12;").missed());
        c.due("two alike", 1, c.told("jaw 1;jaw 1;jaw 1;verse 0;verse 2;verse 4;").missed());
    }

    static void promise23FewestKinds(Checks c) {
        c.due("only the last one tells", 11, c.told(TWELVE + "verse 0;verse 2048;").missed());
        // Without rib 0, or 1, there are 4 kinds left, without rib 2 only 3.
        c.due("the one by which most are alike", 2,
            c.told("jaw 1;jaw 1;jaw 1;verse 0;verse 4;verse 1;verse 5;verse 2;verse 6;").missed());
    }

    // ---- promise 24 ----

    static void promise24From0To12(Checks c) {
        RibLoom x = c.told(TWELVE + "verse 0;verse 4095;verse 2048;");
        c.due("between(0, 0)", 0, x.between(0, 0));
        c.due("between(0, 1)", 12, x.between(0, 1));
        c.due("between(1, 0)", 12, x.between(1, 0));
        c.due("between(2, 1)", 11, x.between(2, 1));
        c.due("between(0, 2)", 1, x.between(0, 2));
        c.due("all gone", 0, c.told(GONE_TWELVE + "verse 0;verse 4095;").between(0, 1));
        c.due("without ribs", 0, c.told("verse 0;verse 4095;").between(0, 1));
    }

    static void promise24NoSuchVerseOfEither(Checks c) {
        RibLoom x = c.told(TWELVE + "verse 1;".repeat(8));
        c.due("between(7, 7)", 0, x.between(7, 7));
        c.none("between(-1, 0)", () -> x.between(-1, 0));
        c.none("between(0, -1)", () -> x.between(0, -1));
        c.none("between(8, 0)", () -> x.between(8, 0));
        c.none("between(0, 8)", () -> x.between(0, 8));
        c.none("between(MIN, 0)", () -> x.between(MIN, 0));
        c.none("between(0, MAX)", () -> x.between(0, MAX));
        c.none("one behind the last", () -> c.told("verse 1;").between(0, 1));
    }

    // ---- promise 25 ----

    static void promise25IFromNoneToTheLast(Checks c) {
        RibLoom x = c.told(TWELVE + "verse 1;".repeat(8));
        c.due("order(-1)", 0, x.order(-1));
        c.due("order(0)", 0, x.order(0));
        c.due("order(7)", 7, x.order(7));
        c.none("order(-2)", () -> x.order(-2));
        c.none("order(8)", () -> x.order(8));
        c.none("order(MIN)", () -> x.order(MIN));
        c.none("order(MAX)", () -> x.order(MAX));
    }

    static void promise25WithoutVerses(Checks c) {
        RibLoom x = c.told(TWELVE);
        c.due("order(-1)", 0, x.order(-1));
        c.none("order(0)", () -> x.order(0));
        c.none("order(-2)", () -> x.order(-2));
        RibLoom y = c.told(TWELVE + "verse 0;verse 7;");
        c.due("with two", 3, y.order(-1));
        Checks.tell(y, TWELVE);
        c.due("and then without", 0, y.order(-1));
    }

    static void promise25OneVerse(Checks c) {
        RibLoom x = c.told(TWELVE + "verse 4095;");
        c.due("order(-1)", 0, x.order(-1));
        c.due("order(0)", 0, x.order(0));
        c.none("order(1)", () -> x.order(1));
    }

    static void promise25WithoutRibsAsTold(Checks c) {
        RibLoom x = c.told("verse 0;verse 4095;verse 1;");
        c.due("order(-1)", 0, x.order(-1));
        for (int i = 0; i < 3; i++) {
            c.due("order(" + i + ")", i, x.order(i));
        }
    }

    static void promise25MostTurns(Checks c) {
        // Four of each kind: 0, its like ones, and then over to the others.
        RibLoom x = c.told(TWELVE + "verse 0;verse 4095;".repeat(4));
        c.due("order(-1)", 12, x.order(-1));
        int[] due = {0, 2, 4, 6, 1, 3, 5, 7};
        for (int i = 0; i < 8; i++) {
            c.due("order(" + i + ")", due[i], x.order(i));
        }
    }

    static void promise25TheFirstOneToldStaysFirst(Checks c) {
        // From 1 (in the middle) it is dearer than from either end.
        RibLoom x = c.told("jaw 1;jaw 1;jaw 1;verse 1;verse 0;verse 3;verse 7;");
        c.due("order(-1): 1 and 2 and 1", 4, x.order(-1));
        c.due("order(0)", 0, x.order(0));
        c.due("order(1)", 1, x.order(1));
        c.due("order(2)", 2, x.order(2));
        c.due("order(3)", 3, x.order(3));
    }

    static void promise25OfLikeOnesTheFirstRow(Checks c) {
        RibLoom x = c.told("jaw 1;jaw 1;verse 0;verse 2;verse 1;verse 3;");
        // 0 2 3 1 and 0 1 3 2 take three TURNS each: by number 0 1 3 2 and 0 2 3 1.
        c.due("order(-1)", 3, x.order(-1));
        int[] due = {0, 1, 3, 2};
        for (int i = 0; i < 4; i++) {
            c.due("order(" + i + ")", due[i], x.order(i));
        }
    }

    static void promise25OnlyRibsThatArentGone(Checks c) {
        RibLoom x = c.told("jaw 1;jaw 1;verse 0;verse 3;verse 1;");
        c.due("order(-1)", 2, x.order(-1));
        c.due("order(1)", 2, x.order(1));
        x.sell(1);
        c.due("order(-1), rib 1 is gone", 1, x.order(-1));
        c.due("order(1), 3 is like 1", 1, x.order(1));
        x.sell(0);
        c.due("order(-1), all gone", 0, x.order(-1));
    }

    // ---- promise 30 ----

    static void promise30TheFirstForTheLast(Checks c) {
        RibLoom x = c.told(TWELVE + "verse 1;verse 2048;verse 3;verse 0;verse 4095;");
        c.due("mirrored(0)", 1, x.mirrored(0));
        c.due("mirrored(1)", 0, x.mirrored(1));
        c.due("mirrored(2)", -1, x.mirrored(2));
        c.due("all under", 3, x.mirrored(3));
        c.due("all over", 4, x.mirrored(4));
    }

    static void promise30NoSuchVerse(Checks c) {
        RibLoom x = c.told(TWELVE + "verse 1;".repeat(7) + "verse 2048;");
        c.due("mirrored(7)", 0, x.mirrored(7));
        c.due("mirrored(0)", 7, x.mirrored(0));
        c.none("mirrored(-1)", () -> x.mirrored(-1));
        c.none("mirrored(8)", () -> x.mirrored(8));
        c.none("mirrored(MIN)", () -> x.mirrored(MIN));
        c.none("mirrored(MAX)", () -> x.mirrored(MAX));
        c.none("one behind the last", () -> c.told("verse 1;").mirrored(1));
    }

    static void promise30OfLikeOnesTheLeastBeItItself(Checks c) {
        RibLoom x = c.told("jaw 1;jaw 1;jaw 1;verse 5;verse 5;verse 2;verse 4;verse 4;verse 1;");
        c.due("one of like ones", 0, x.mirrored(1));
        c.due("itself", 2, x.mirrored(2));
        c.due("the least of two", 3, x.mirrored(5));
    }

    static void promise30OneRibOrNone(Checks c) {
        RibLoom one = c.told("jaw 1;verse 0;verse 1;verse 3;");
        c.due("one rib: under", 0, one.mirrored(0));
        c.due("one rib: over", 1, one.mirrored(2));
        one.sell(0);
        c.due("all gone: the least", 0, one.mirrored(2));
        c.due("without ribs: the least", 0, c.told("verse 7;verse 9;").mirrored(1));
    }

    static void promise30RibsThatAreGoneAreLeftOut(Checks c) {
        // Of 4 ribs the second is gone: 0, 2, 3 are left, and 0 stands for 3, 2 for itself.
        RibLoom x = c.told("jaw 1;jaw 0;jaw 1;jaw 1;verse 1;verse 8;verse 4;verse 2;");
        c.due("over 0: over 3", 1, x.mirrored(0));
        c.due("over 3: over 0", 0, x.mirrored(1));
        c.due("over 2: itself", 2, x.mirrored(2));
        c.due("over the gone one alone: itself", 3, x.mirrored(3));
    }

    // ---- promise 33 ----

    static void promise33FromNoneToAllTwelve(Checks c) {
        RibLoom x = c.told(TWELVE + "verse 4095;verse 0;verse 2049;");
        c.due("both(0, 0)", 4095, x.both(0, 0));
        c.due("both(0, 1)", 0, x.both(0, 1));
        c.due("both(1, 1): under is not over", 0, x.both(1, 1));
        c.due("both(2, 0)", 2049, x.both(2, 0));
        x.sell(11);
        c.due("both(2, 0), the last one is gone", 1, x.both(2, 0));
        c.due("all gone", 0, c.told(GONE_TWELVE + "verse 4095;").both(0, 0));
        c.due("without ribs", 0, c.told("verse 4095;").both(0, 0));
        c.due("ribs that there aren't", 3, c.told("jaw 1;jaw 1;verse 4095;").both(0, 0));
    }

    static void promise33NoSuchVerseOfEither(Checks c) {
        RibLoom x = c.told(TWELVE + "verse 1;".repeat(8));
        c.due("both(7, 7)", 1, x.both(7, 7));
        c.none("both(-1, 0)", () -> x.both(-1, 0));
        c.none("both(0, -1)", () -> x.both(0, -1));
        c.none("both(8, 0)", () -> x.both(8, 0));
        c.none("both(0, 8)", () -> x.both(0, 8));
        c.none("both(MIN, 0)", () -> x.both(MIN, 0));
        c.none("both(0, MAX)", () -> x.both(0, MAX));
        c.none("one behind the last", () -> c.told("verse 1;").both(0, 1));
    }
}
