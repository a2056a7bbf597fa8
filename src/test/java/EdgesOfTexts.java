/** The edges of promises 1 to 4: a new object, the tape, what a text may hold and where its FAULT lies. */
final class EdgesOfTexts {
    // ---- promise 1 ----

    static void promise1ThereIsNothing(Checks c) {
        RibLoom x = new RibLoom();
        for (int what = 0; what <= 15; what++) {
            c.due("count(" + what + ")", 0, x.count(what));
        }
        c.due("fault()", -1, x.fault());
        c.due("undo()", -1, x.undo());
        c.due("restore()", 0, x.restore() ? 1 : 0);
    }

    static void promise1TheFiveHundredAndTwelfthCallAnswersToo(Checks c) {
        RibLoom refused = new RibLoom();
        for (int call = 1; call < 512; call++) {
            refused.days(0);
        }
        c.due("refused acts", 511, refused.count(14));

        RibLoom acted = new RibLoom();
        for (int call = 1; call < 512; call++) {
            c.due("teach(0, ..)", call == 1 ? 3 : 8 + call % 2, acted.teach(0, 9 - call % 2));
        }
        c.due("undo()", 39, acted.undo());

        RibLoom retold = new RibLoom();
        for (int texts = 1; texts <= 255; texts++) {
            c.due("loom(7)", 0, Checks.tell(retold, "rib " + (10 + texts % 50) + ";"));
        }
        c.due("strength of the last text", 15, retold.rib(0, 0));
        c.due("strength behind a day", 14, retold.then(0, 1));
    }

    static void promise1SkillIs3EachWithoutATelling(Checks c) {
        RibLoom x = new RibLoom();
        c.due("skill(0)", 3, x.skill(0));
        c.due("skill(1)", 3, x.skill(1));
    }

    static void promise1NoRib0NoVerse0NoSail0(Checks c) {
        RibLoom x = new RibLoom();
        c.none("rib(0, 0)", () -> x.rib(0, 0));
        c.none("verse(0, 0)", () -> x.verse(0, 0));
        c.none("sail(0, 0)", () -> x.sail(0, 0));
        c.none("sell(0)", () -> x.sell(0));
        c.none("shore(0, 1)", () -> x.shore(0, 1));
        c.none("then(0, 0)", () -> x.then(0, 0));
        c.none("gone(0)", () -> x.gone(0));
        c.none("between(0, 0)", () -> x.between(0, 0));
        c.none("mirrored(0)", () -> x.mirrored(0));
        c.none("both(0, 0)", () -> x.both(0, 0));
        c.none("see(0, 0, true)", () -> x.see(0, 0, true));
        c.none("storms(0, 1, 1)", () -> x.storms(0, 1, 1));
        c.none("order(0)", () -> x.order(0));
    }

    static void promise1WithoutRibsNoSailIsDone(Checks c) {
        RibLoom x = new RibLoom();
        c.due("days(20)", 20, x.days(20));
        c.due("sails", 0, x.count(5));
        c.due("KEPT", 0, x.count(6));
        c.due("done(1, 0)", -1, x.done(1, 0));
        c.due("widest()", -1, x.widest());
        c.due("later(60, 2)", 0, x.later(60, 2));
        c.due("years(1, 60, 0)", 0, x.years(1, 60, 0));
        c.due("years(1, 60, 1)", 0, x.years(1, 60, 1));
        c.due("years(1, 60, 2)", 0, x.years(1, 60, 2));
    }

    static void promise1WithoutRibsThereIsNoneToAnswer(Checks c) {
        RibLoom x = new RibLoom();
        c.due("fall(0)", -1, x.fall(0));
        c.due("fall(1)", -1, x.fall(1));
        c.due("strongest(0)", -1, x.strongest(0));
        c.due("span(0)", 0, x.span(0));
        c.due("span(1)", -1, x.span(1));
        c.due("pace(0)", 0, x.pace(0));
        c.due("pace(1)", 0, x.pace(1));
        c.due("missed()", -1, x.missed());
        c.due("toTell()", 0, x.toTell());
        c.due("order(-1)", 0, x.order(-1));
        c.due("strong(0)", 0, x.strong(0));
        c.due("strong(1)", -1, x.strong(1));
        c.due("strong(2)", 1, x.strong(2));
        c.due("look(0)", -1, x.look(0));
        c.due("look(1)", 0, x.look(1));
        c.due("lost(60, 0)", 0, x.lost(60, 0));
        c.due("lost(60, 1)", 0, x.lost(60, 1));
    }

    static void promise1WithoutRibsOnlyNoBitsAreBits(Checks c) {
        RibLoom x = new RibLoom();
        c.due("dating(0, 0)", -1, x.dating(0, 0));
        c.bad("dating(1, 0)", () -> x.dating(1, 0));
        c.due("before(0, 0)", 0, x.before(0, 0));
        c.bad("before(0, 1)", () -> x.before(0, 1));
        c.bad("before(1, 0)", () -> x.before(1, 0));
    }

    // ---- promise 2 ----

    static void promise2ThirtyFiveFillTheTape(Checks c) {
        RibLoom x = new RibLoom();
        for (int i = 1; i <= 35; i++) {
            c.due("feed " + i, 20 * i, x.feed(i, i, i, i, i));
        }
        c.due("bytes", 700, x.count(12));
    }

    static void promise2BeyondSevenHundredNoneCome(Checks c) {
        RibLoom x = new RibLoom();
        Checks.feed(x, " ".repeat(680) + "rib 7;");
        new Watch(c, x).answers(-1, "a feed beyond 700", () -> x.feed(0x72696238, 0x3b726962, 0x393b2020, 0, 0));
        c.due("loom(700)", 0, x.loom(700));
        c.due("one rib", 1, x.count(0));
        c.due("of 7", 7, x.rib(0, 0));
    }

    static void promise2TheHighestByteComesFirst(Checks c) {
        RibLoom x = new RibLoom();
        // "verse 4095;" and "rib 42;" in five numbers.
        x.feed(0x76657273, 0x65203430, 0x39353b72, 0x69622034, 0x323b2020);
        c.due("loom(18)", 0, x.loom(18));
        c.due("the throw", 4095, x.verse(0, 0));
        c.due("the strength", 42, x.rib(0, 0));
    }

    static void promise2BytesAbove127AreNoTokens(Checks c) {
        int[] numbers = {-1, Integer.MIN_VALUE, 0xe1726962, 0xa0202020, 0x8a202020};
        for (int number : numbers) {
            RibLoom x = new RibLoom();
            x.feed(number, 0, 0, 0, 0);
            c.due("loom(4) of " + number, 1, x.loom(4));
            c.due("fault() of " + number, 0, x.fault());
        }
    }

    static void promise2AfterALoomTheTapeBeginsAnew(Checks c) {
        RibLoom x = new RibLoom();
        Checks.feed(x, " ".repeat(700));
        c.due("loom(1)", 0, x.loom(1));
        c.due("bytes", 0, x.count(12));
        c.due("feed", 20, x.feed(0, 0, 0, 0, 0));
    }

    // ---- promise 3: the call ----

    static void promise3NFrom0ToTheTapesLength(Checks c) {
        RibLoom x = new RibLoom();
        Checks.feed(x, "rib 7;rib 8;rib 9;");
        Watch watch = new Watch(c, x);
        watch.bad("loom(21)", () -> x.loom(21));
        watch.bad("loom(-1)", () -> x.loom(-1));
        watch.bad("loom(MIN)", () -> x.loom(Integer.MIN_VALUE));
        watch.bad("loom(MAX)", () -> x.loom(Integer.MAX_VALUE));
        c.due("loom(20)", 0, x.loom(20));
        c.due("ribs", 3, x.count(0));
    }

    static void promise3OfAnEmptyTapeOnlyNoneIsIn(Checks c) {
        RibLoom x = new RibLoom();
        new Watch(c, x).bad("loom(1)", () -> x.loom(1));
        c.due("loom(0)", 0, x.loom(0));
    }

    static void promise3NoBytesAreALoomWithoutRibs(Checks c) {
        RibLoom x = c.told("rib 7;verse 1;clans 9 9;");
        Checks.feed(x, "rib 8;");
        c.due("loom(0)", 0, x.loom(0));
        c.due("ribs", 0, x.count(0));
        c.due("verses", 0, x.count(1));
        c.due("skill", 3, x.skill(0));
        c.due("tape", 0, x.count(12));
    }

    static void promise3OnlyTheFirstNBytesCount(Checks c) {
        RibLoom x = new RibLoom();
        Checks.feed(x, "rib 7;rib 8;");
        c.due("loom(6)", 0, x.loom(6));
        c.due("ribs", 1, x.count(0));
        c.due("the rest is gone, too", 0, x.count(12));
        Checks.feed(x, "rib 77;rib 8;");
        c.due("loom(6): 'rib 77'", 1, x.loom(6));
        c.due("ends at", 6, x.fault());
        Checks.feed(x, "rib 7;rib 8;");
        c.due("loom(8): 'rib 7;ri'", 1, x.loom(8));
        c.due("no such word", 6, x.fault());
        Checks.feed(x, "rib 123;");
        c.due("loom(6): 'rib 12'", 1, x.loom(6));
        c.due("the cut number is in its bounds", 6, x.fault());
    }

    static void promise3ATextOf700BytesIsReadWhole(Checks c) {
        String blanks = " \n".repeat(347);
        c.fault(blanks + "rib 7;", 0, -1);
        c.fault("rib 7" + blanks + ";", 0, -1);
        c.fault(blanks + "rib 7 ", 1, 700);
        c.fault(blanks + "rib 7@", 1, 699);
        c.fault("rots 1" + "+1".repeat(346) + " ;", 0, -1);
        c.fault("rots " + "1+".repeat(347) + ";", 1, 699);
    }

    static void promise3ThePlacesOf700BytesAreWorkedOut(Checks c) {
        RibLoom x = c.told("rib 99;rots 1+1" + "+1-1".repeat(170) + ";");
        c.due("rot", 97, x.then(0, 1));
    }

    static void promise3WithAFaultAllStaysButStatus(Checks c) {
        RibLoom x = c.told("rib 9;jaw 9;jaw 0;jaw 3;verse 5;clans 0 0;rots 2;");
        x.days(1);
        x.see(0, 2, false);
        x.image();
        c.due("loom", 2, Checks.tell(x, "verse 4;rib 1;rots 1;jaw 100;"));
        c.due("fault()", 25, x.fault());
        int[] counts = {4, 1, 1, 1, 1, 0, 0, 4, 0, 1, 1, 1, 0, 1, 0, 0};
        for (int what = 0; what < 16; what++) {
            c.due("count(" + what + ")", counts[what], x.count(what));
        }
        c.due("strength", 7, x.rib(0, 0));
        c.due("rots", 5, x.then(0, 1));
        c.due("skill", 0, x.skill(0));
        c.due("the throw", 5, x.verse(0, 0));
        c.due("the jaw", 1, x.rib(1, 1));
        // Rib 0 with 5 to 99 but 7, and all of the jaws.
        c.due("what is SEEN", 94 + 98 + 99 + 98, x.strong(0));
        c.due("undo()", 0, x.undo());
        c.due("strength, undone", 9, x.rib(0, 0));
        c.due("restore()", 1, x.restore() ? 1 : 0);
        c.due("the image's DAY", 1, x.count(2));
    }

    static void promise3AllAnew(Checks c) {
        RibLoom x = c.told("jaw 0;jaw 9;jaw 9;jaw 9;verse 5;clans 0 0;rots 2;weaves 1;");
        x.days(3);
        x.teach(0, 9);
        x.see(1, 1, true);
        x.image();
        c.due("loom", 0, Checks.tell(x, "rib 8;jaw 7;"));
        int[] counts = {2, 0, 0, 0, 0, 0, 0, 0, 0, 0, 0, 0, 0, 0, 0, 0};
        for (int what = 0; what < 16; what++) {
            c.due("count(" + what + ")", counts[what], x.count(what));
        }
        c.due("SKILL of WEST", 3, x.skill(0));
        c.due("SKILL of EAST", 3, x.skill(1));
        c.due("ROTS is not told", 7, x.then(0, 1));
        c.due("WEAVES is not told", 1, x.pace(0));
        c.due("what is SEEN is gone", 98 + 98, x.strong(0));
        c.due("ACTS are gone", -1, x.undo());
        c.due("the image is gone", 0, x.restore() ? 1 : 0);
        c.none("sail(0, 0)", () -> x.sail(0, 0));
        c.none("verse(0, 0)", () -> x.verse(0, 0));
    }

    static void promise3AFaultyTextLeavesNothingToTheNextOne(Checks c) {
        RibLoom x = new RibLoom();
        String all = "jaw 1;".repeat(12) + "verse 1;".repeat(8) + "clans 9 9;weaves 5;";
        c.due("a long text", 1, Checks.tell(x, all + "rots 7+((1*(1<"));
        c.due("a short one", 0, Checks.tell(x, "rib 50;rib 40;"));
        c.due("RIBS", 2, x.count(0));
        c.due("no jaw", 0, x.rib(0, 1));
        c.due("verses", 0, x.count(1));
        c.due("skill", 3, x.skill(0));
        c.due("WEAVES is not told", 1, x.pace(0));
        c.due("ROTS is not told", 49, x.then(0, 1));
        Checks.tell(x, "clans 1 1;rots (((1+");
        c.due("all of it once more", 0, Checks.tell(x, "rib 50;clans 2 3;verse 7;weaves 2;rots 2*(1+1);"));
        c.due("RIBS again", 1, x.count(0));
        c.due("verses again", 1, x.count(1));
        c.due("skill again", 2, x.skill(0));
        c.due("WEAVES", 2, x.pace(0));
        c.due("ROTS", 46, x.then(0, 1));
    }

    static void promise3AnExprThatEndsTooSoonLeavesNothingToTheNextOne(Checks c) {
        RibLoom x = new RibLoom();
        String[] cut = {"rots 1<", "rots not not not not not not", "rots ((((((", "rots 1 or 1 and 1=1+1*", "rots ("};
        for (String text : cut) {
            c.due(text, 1, Checks.tell(x, text));
            c.due("behind " + text, 0, Checks.tell(x, "rib 50;rots 1<2;"));
            c.due("rot", 49, x.then(0, 1));
        }
    }

    static void promise3LongTextsOneAfterTheOther(Checks c) {
        RibLoom x = new RibLoom();
        for (int i = 0; i < 8; i++) {
            c.due("loom " + i, 0, Checks.tell(x, "rib 99;rots " + i + "+1".repeat(9) + "+1-1".repeat(160) + ";"));
            c.due("rot " + i, 90 - i, x.then(0, 1));
        }
    }

    static void promise3TheThirdAndTheFourthTextAreAnewToo(Checks c) {
        RibLoom x = new RibLoom();
        for (int i = 0; i < 4; i++) {
            c.due("with all", 0, Checks.tell(x, "jaw 9;".repeat(12) + "verse 1;".repeat(8) + "clans 9 9;rots 9;weaves 5;"));
            c.due("RIBS", 12, x.count(0));
            c.due("verses", 8, x.count(1));
            c.due("pace", 5, x.pace(0));
            c.due("without", 0, Checks.tell(x, "rib 9;"));
            c.due("RIBS", 1, x.count(0));
            c.due("verses", 0, x.count(1));
            c.due("rot", 8, x.then(0, 1));
            c.due("pace", 1, x.pace(0));
        }
    }

    static void promise3TheSameTextAgainIsAnewToo(Checks c) {
        String text = "rib 9;jaw 5;jaw 5;jaw 5;clans 0 0;";
        RibLoom x = c.told(text);
        x.days(1);
        x.sell(1);
        c.due("loom", 0, Checks.tell(x, text));
        c.due("strength of 0", 9, x.rib(0, 0));
        c.due("strength of 1", 5, x.rib(1, 0));
        c.due("WEST", 0, x.count(3));
        c.due("DAY", 0, x.count(2));
    }

    static void promise3StatusGoesOn(Checks c) {
        RibLoom x = c.told("rib 9;");
        Checks.tell(x, "rob");
        x.days(0);
        x.see(0, 21, true);
        c.due("loom", 0, Checks.tell(x, "rib 9;"));
        for (int what = 13; what <= 15; what++) {
            c.due("count(" + what + ")", 1, x.count(what));
        }
    }

    // ---- promise 3: tokens ----

    static void promise3OnlyBytes32And10AreBlanks(Checks c) {
        for (int b = 0; b < 256; b++) {
            boolean blank = b == 32 || b == 10;
            c.fault("rib 1;" + (char) b, blank ? 0 : 1, blank ? -1 : 6);
        }
    }

    static void promise3EachByteWhereAPartMustStand(Checks c) {
        for (int b = 0; b < 256; b++) {
            boolean goesOn = b == 32 || b == 10 || b == '(' || b >= '0' && b <= '9';
            boolean word = b >= 'a' && b <= 'z';
            c.fault("rots " + (char) b, word ? 3 : 1, goesOn ? 6 : 5);
        }
    }

    static void promise3EachByteWhereAnOperationMayStand(Checks c) {
        for (int b = 0; b < 256; b++) {
            boolean fits = b >= '0' && b <= '9' || b != 0 && "+-*/<=".indexOf(b) >= 0;
            boolean goesOn = b == 32 || b == 10 || b == ';';
            c.fault("rots 1" + (char) b + "1;", fits ? 0 : 1, fits ? -1 : goesOn ? 7 : 6);
        }
    }

    static void promise3BlanksCountForNothing(Checks c) {
        c.fault("\n  rib\n\n7 ;\njaw 7\n;clans 1\n2;verse\n1;rots( 1\n) ;weaves not\n1 ; \n", 0, -1);
        c.fault("rib7;jaw7;clans1 2;verse1;rots(1);weaves(not 1);", 0, -1);
        c.fault("   ", 0, -1);
    }

    static void promise3AWordIsTheLongestRow(Checks c) {
        c.fault("ribs 1;", 1, 0);
        c.fault("bib 1;", 1, 0);
        c.fault("rab 1;", 1, 0);
        c.fault("rid 1;", 1, 0);
        c.fault("ri b 1;", 1, 0);
        c.fault("ribjaw 1;", 1, 0);
        c.fault("rotsday;", 1, 0);
        c.fault("rots notday;", 3, 5);
        c.fault("rots not day;", 0, -1);
        c.fault("rots 1and2or day;", 0, -1);
        c.fault("rots day1;", 1, 8);
        c.fault("rots 1 andday;", 1, 7);
    }

    static void promise3ANumberHasOneToFourDigits(Checks c) {
        c.fault("rots 0;", 0, -1);
        c.fault("rots 9999;", 0, -1);
        c.fault("rots 10000;", 2, 5);
        c.fault("rots 00000;", 2, 5);
        c.fault("rots 1+00001;", 2, 7);
        c.fault("rib 0009;", 0, -1);
        c.fault("rib 00009;", 2, 4);
        c.fault("verse 04095;", 2, 6);
        c.fault("clans 00000 1;", 2, 6);
        c.fault("clans 1 00000;", 2, 8);
        c.fault("rib " + "1".repeat(300) + ";", 2, 4);
        c.fault("rib 12 34;", 1, 7);
        c.fault("12345;", 1, 0);
        c.fault("rib 1 12345;", 1, 6);
        c.fault("rots 1 12345;", 1, 7);
    }

    // ---- promise 3: lines ----

    static void promise3EachTokenOfALineInItsPlace(Checks c) {
        c.fault("rib;", 1, 3);
        c.fault("rib rib;", 1, 4);
        c.fault("rib (1);", 1, 4);
        c.fault("rib -1;", 1, 4);
        c.fault("rib 1+1;", 1, 5);
        c.fault("rib 1 jaw 1;", 1, 6);
        c.fault("jaw;", 1, 3);
        c.fault("jaw 1 1;", 1, 6);
        c.fault("verse;", 1, 5);
        c.fault("verse 1 verse 1;", 1, 8);
        c.fault("clans;", 1, 5);
        c.fault("clans 1;", 1, 7);
        c.fault("clans 1 1 1;", 1, 10);
        c.fault("rots;", 1, 4);
        c.fault("weaves;", 1, 6);
        c.fault(";", 1, 0);
        c.fault("rib 1;;", 1, 6);
        c.fault("1;", 1, 0);
        c.fault("strength;", 1, 0);
        c.fault("or;", 1, 0);
    }

    static void promise3ATextThatEndsTooSoonIsAtItsLength(Checks c) {
        String[] texts = {"rib", "rib ", "rib 1", "rib 1\n\n", "jaw", "jaw 1", "verse", "verse 1 ", "clans", "clans 1",
            "clans 1 2", "rots", "rots 1", "rots 1+", "rots (", "rots (1", "rots (1)", "rots not", "rots 1 and ",
            "weaves", "weaves 1 < ", "rib 1;rib 1"};
        for (String text : texts) {
            c.fault(text, 1, text.length());
        }
    }

    static void promise3StrengthIs0To99(Checks c) {
        c.fault("rib 0;jaw 0;", 0, -1);
        c.fault("rib 99;jaw 99;", 0, -1);
        c.fault("rib 100;", 2, 4);
        c.fault("jaw 100;", 2, 4);
        c.fault("rib 9999;", 2, 4);
        RibLoom x = c.told("rib 0;rib 99;");
        c.due("0 is GONE", 1, x.count(7));
        c.due("99", 99, x.rib(1, 0));
    }

    static void promise3SkillIs0To9(Checks c) {
        c.fault("clans 0 0;", 0, -1);
        c.fault("clans 9 9;", 0, -1);
        c.fault("clans 10 9;", 2, 6);
        c.fault("clans 9 10;", 2, 8);
        c.fault("clans 10 10;", 2, 6);
    }

    static void promise3AThrowIs0To4095(Checks c) {
        c.fault("verse 0;", 0, -1);
        c.fault("verse 4095;", 0, -1);
        c.fault("verse 4096;", 2, 6);
        c.fault("verse 9999;", 2, 6);
        c.due("without ribs a throw stands, too", 4095, c.told("verse 4095;").verse(0, 0));
    }

    static void promise3TwelveRibsAtMost(Checks c) {
        String twelve = "rib 1;jaw 1;".repeat(6);
        c.fault(twelve, 0, -1);
        c.fault(twelve + "verse 1;clans 1 1;rots 1;weaves 1;", 0, -1);
        c.fault(twelve + "rib 1;", 2, 72);
        c.fault(twelve + "jaw 1;", 2, 72);
        c.fault(twelve + " jaw", 2, 73);
        c.fault(twelve + "rib 100;", 2, 72);
        c.fault(twelve + "ribs 1;", 1, 72);
        c.fault(twelve + "verse rib", 1, 78);
    }

    static void promise3EightVersesAtMost(Checks c) {
        String eight = "verse 1;".repeat(8);
        c.fault(eight, 0, -1);
        c.fault(eight + "rib 1;", 0, -1);
        c.fault(eight + "verse 1;", 2, 64);
        c.fault(eight + "verse", 2, 64);
        c.fault(eight + "verses", 1, 64);
    }

    static void promise3ClansRotsWeavesOnceEach(Checks c) {
        c.fault("clans 1 1;rots 1;weaves 1;", 0, -1);
        c.fault("clans 1 1;clans 2 2;", 5, 10);
        c.fault("clans 1 1;rib 1;clans", 5, 16);
        c.fault("rots 1;rots 1;", 5, 7);
        c.fault("rots 1;weaves 1;rots", 5, 16);
        c.fault("weaves 1;weaves 1;", 5, 9);
        c.fault("weaves 1;rots 1;weaves", 5, 16);
        c.fault("clans 1 clans 1;", 1, 8);
        c.fault("rots rots 1;", 3, 5);
        c.fault("rots 1 rots 1;", 1, 7);
    }

    static void promise3TheFirstFaultAlongTheText(Checks c) {
        c.fault("rib 100;rob", 2, 4);
        c.fault("rib 1 rob 100;", 1, 6);
        c.fault("rots skill;rots 1;", 3, 5);
        c.fault("clans 1 1;clans 10 10;", 5, 10);
        c.fault("rots ((((((skill + 12345 rob", 2, 11);
    }

    // ---- promise 3: EXPR ----

    static void promise3OneTestInANot(Checks c) {
        c.fault("rots 1<2;", 0, -1);
        c.fault("rots 1<2<3;", 1, 8);
        c.fault("rots 1=2<3;", 1, 8);
        c.fault("rots 1<2+3=3;", 1, 10);
        c.fault("rots 1<2 and 2=3 or not 3<4;", 0, -1);
        c.fault("rots not 1<2=3;", 1, 12);
        c.fault("rots (1<2)=(2<3);", 0, -1);
        c.fault("rots (1<2<3);", 1, 9);
    }

    static void promise3ParenthesesAreOpenedAndClosed(Checks c) {
        c.fault("rots ();", 1, 6);
        c.fault("rots );", 1, 5);
        c.fault("rots (1;", 1, 7);
        c.fault("rots 1);", 1, 6);
        c.fault("rots (1));", 1, 8);
        c.fault("rots ((1);", 1, 9);
        c.fault("rots (1)1;", 1, 8);
        c.fault("rots 1(1);", 1, 6);
        c.fault("rots (1)(1);", 1, 8);
    }

    static void promise3WithinFiveOthersIsInWithinSixTooMuch(Checks c) {
        c.fault("rots (((((1)))));", 0, -1);
        c.fault("rots ((((((1))))));", 2, 11);
        c.fault("rots ((((((day))))));", 2, 11);
        c.fault("rots ((((((not 1))))));", 2, 11);
        c.fault("rots ((((((or))))));", 2, 11);
        c.fault("rots ((((((rob))))));", 2, 11);
        c.fault("rots ((((((12345))))));", 2, 11);
        c.fault("rots (((((((1)))))));", 2, 11);
        c.fault("rots (((((()", 1, 11);
        c.fault("rots ((((((;", 1, 11);
        c.fault("rots ((((((-1", 1, 11);
        c.fault("rots (((((( ", 1, 12);
        c.fault("weaves 1+(1*(1-(1<(1 and (not (1", 2, 31);
        c.fault("rots (((((1)))))+(((((1)))));", 0, -1);
        c.fault("rots (((((1)))))+((((((1", 2, 23);
        c.fault("rots (((((1)+(1)))));", 0, -1);
    }

    static void promise3SixNotsSideBySideTheSeventhIsTooMuch(Checks c) {
        String six = "rots not not not not not not ";
        c.fault(six + "1;", 0, -1);
        c.fault(six + "not 1;", 2, 29);
        c.fault(six + "not", 2, 29);
        c.fault(six + "(not not not not not not 1);", 0, -1);
        c.fault(six + "(not not not not not not not 1);", 2, 54);
        c.fault(six + "1 and not 1;", 0, -1);
        c.fault(six + "1 or not not not not not not not 1;", 2, 58);
        c.fault(six + "or 1;", 3, 29);
        c.fault(six + ";", 1, 29);
    }

    static void promise3AWordThatIsNoValueOfThisExpr(Checks c) {
        String[] both = {"strength", "place", "day"};
        String[] ofRots = {"beside", "woven"};
        String[] ofWeaves = {"skill", "left"};
        String[] ofNone = {"rib", "jaw", "clans", "verse", "rots", "weaves", "and", "or", "days", "da", "x"};
        for (String word : both) {
            c.fault("rots " + word + ";weaves " + word + ";", 0, -1);
        }
        for (String word : ofRots) {
            c.fault("rots " + word + ";", 0, -1);
            c.fault("weaves " + word + ";", 3, 7);
        }
        for (String word : ofWeaves) {
            c.fault("weaves " + word + ";", 0, -1);
            c.fault("rots " + word + ";", 3, 5);
        }
        for (String word : ofNone) {
            c.fault("rots " + word + ";", 3, 5);
            c.fault("weaves 1+" + word + ";", 3, 9);
            c.fault("weaves not " + word + ";", 3, 11);
            c.fault("weaves (" + word + ";", 3, 8);
        }
    }

    static void promise3NotStandsOnlyWhereANotMay(Checks c) {
        c.fault("rots not 1;", 0, -1);
        c.fault("rots (not 1);", 0, -1);
        c.fault("rots 1 or not 1;", 0, -1);
        c.fault("rots 1 and not 1;", 0, -1);
        for (String sign : new String[] {"+", "-", "*", "/", "<", "="}) {
            c.fault("rots 1" + sign + "not 1;", 3, 7);
            c.fault("rots 1" + sign + "(not 1);", 0, -1);
        }
        c.fault("rots 1 not 1;", 1, 7);
    }

    static void promise3BehindAPartAnotherWordCannotStand(Checks c) {
        c.fault("rots 1 skill;", 1, 7);
        c.fault("rots 1 day;", 1, 7);
        c.fault("rots day day;", 1, 9);
        c.fault("rots (1) rob;", 1, 9);
        c.fault("rots 1 and;", 1, 10);
    }

    // ---- promise 4 ----

    static void promise4NoneAheadOfALoom(Checks c) {
        c.due("fault()", -1, new RibLoom().fault());
    }

    static void promise4TheFirstAndTheLastPlace(Checks c) {
        c.fault("@" + " ".repeat(699), 1, 0);
        c.fault(" ".repeat(699) + "@", 1, 699);
        c.fault(" ".repeat(697) + "rib", 1, 700);
    }

    static void promise4OfTheLatestLoom(Checks c) {
        RibLoom x = new RibLoom();
        Checks.tell(x, "rob");
        c.due("the first", 0, x.fault());
        Checks.tell(x, "rib 1; rob");
        c.due("the second", 7, x.fault());
        Checks.tell(x, "rib 1;");
        c.due("none", -1, x.fault());
        Checks.tell(x, " rob");
        c.due("the fourth", 1, x.fault());
        x.loom(0);
        c.due("none of an empty one", -1, x.fault());
    }

    static void promise4ALoomThatThrowsLeavesIt(Checks c) {
        RibLoom x = new RibLoom();
        Checks.tell(x, "rib rob");
        c.bad("loom(1)", () -> x.loom(1));
        c.due("fault()", 4, x.fault());
    }

    static void promise4NoOtherCallChangesIt(Checks c) {
        RibLoom x = c.told("rib 9;");
        x.image();
        Checks.tell(x, "rib 1;rob");
        x.days(1);
        x.undo();
        x.restore();
        x.forget();
        c.due("fault()", 6, x.fault());
    }
}
