/** Promises 1 to 4: a new object, the tape, texts and their faults. */
public final class TextTest {
    private static final Checks CHECK = new Checks();

    public static void main(String[] args) {
        newObject();
        tape();
        looms();
        latestFault();
        lines();
        tooMany();
        words();
        operations();
        depth();
        CHECK.close("TextTest");
    }

    private static void newObject() {
        CHECK.topic("promise 1");
        RibLoom x = new RibLoom();
        for (int what = 0; what <= 15; what++) {
            CHECK.due("count(" + what + ")", 0, x.count(what));
        }
        CHECK.due("fault()", -1, x.fault());
        CHECK.due("skill(0)", 3, x.skill(0));
        CHECK.due("skill(1)", 3, x.skill(1));
        CHECK.none("rib(0, 0)", () -> x.rib(0, 0));
        CHECK.none("verse(0, 0)", () -> x.verse(0, 0));
        CHECK.none("sail(0, 0)", () -> x.sail(0, 0));
        CHECK.due("days(20)", 20, x.days(20));
        CHECK.due("no sail without ribs", 0, x.count(5));
    }

    private static void tape() {
        CHECK.topic("promise 2");
        RibLoom x = new RibLoom();
        // "rib " "7;ri" "b 8;" and blanks: the highest byte comes first.
        CHECK.due("feed", 20, x.feed(0x72696220, 0x373b7269, 0x6220383b, 0x20202020, 0x20202020));
        CHECK.due("loom(12)", 0, x.loom(12));
        CHECK.due("strength of rib 0", 7, x.rib(0, 0));
        CHECK.due("strength of rib 1", 8, x.rib(1, 0));
        CHECK.due("bytes of the tape", 0, x.count(12));
        for (int i = 1; i <= 35; i++) {
            CHECK.due("feed " + i, 20 * i, x.feed(-1, 0, 1, Integer.MIN_VALUE, Integer.MAX_VALUE));
        }
        CHECK.due("feed beyond 700", -1, x.feed(0, 0, 0, 0, 0));
        CHECK.due("bytes of the tape", 700, x.count(12));
        CHECK.due("bytes of 255", 1, x.loom(700));
        CHECK.due("fault()", 0, x.fault());
    }

    private static void looms() {
        CHECK.topic("promise 3");
        RibLoom x = new RibLoom();
        Checks.feed(x, "rib 5;verse 1;");
        CHECK.bad("loom(-1)", () -> x.loom(-1));
        CHECK.bad("loom(21)", () -> x.loom(21));
        CHECK.due("tape stays", 20, x.count(12));
        CHECK.due("STATUS 0 stays", 0, x.count(13));
        CHECK.due("loom(14)", 0, x.loom(14));
        CHECK.due("tape is empty", 0, x.count(12));
        CHECK.bad("loom(1) of an empty tape", () -> x.loom(1));
        x.days(2);
        x.see(0, 1, false);
        x.teach(0, 9);
        x.sell(7 - 7);
        x.days(0);
        x.image();
        CHECK.due("a fault", 1, Checks.tell(x, "rib 6;rob"));
        CHECK.due("tape is empty", 0, x.count(12));
        CHECK.due("ribs stay", 1, x.count(0));
        CHECK.due("day stays", 2, x.count(2));
        CHECK.due("acts stay", 3, x.count(10));
        CHECK.due("seen stays", 1, x.count(11));
        CHECK.due("STATUS 0", 1, x.count(13));
        CHECK.due("image stays", 1, x.restore() ? 1 : 0);
        CHECK.due("all anew", 0, Checks.tell(x, "jaw 4;jaw 2;"));
        CHECK.due("ribs", 2, x.count(0));
        CHECK.due("verses", 0, x.count(1));
        CHECK.due("day", 0, x.count(2));
        CHECK.due("sails", 0, x.count(5));
        CHECK.due("kept sails", 0, x.count(6));
        CHECK.due("acts", 0, x.count(10));
        CHECK.due("seen", 0, x.count(11));
        CHECK.due("skill of west", 3, x.skill(0));
        CHECK.due("image is gone", 0, x.restore() ? 1 : 0);
        CHECK.due("STATUS 1 goes on", 1, x.count(14));
        CHECK.due("loom(0)", 0, x.loom(0));
        CHECK.due("no ribs", 0, x.count(0));
    }

    private static void latestFault() {
        CHECK.topic("promise 4");
        RibLoom x = new RibLoom();
        Checks.tell(x, "rib 5;  ;");
        CHECK.due("fault()", 8, x.fault());
        CHECK.bad("loom(99)", () -> x.loom(99));
        CHECK.due("fault() behind a throw", 8, x.fault());
        Checks.tell(x, "rib 5;");
        CHECK.due("fault() without", -1, x.fault());
        CHECK.due("STATUS 0 goes on", 1, x.count(13));
    }

    private static void lines() {
        CHECK.topic("lines");
        CHECK.fault("", 0, -1);
        CHECK.fault(" \n ", 0, -1);
        CHECK.fault("rib3;jaw4;clans1 2;verse7;rots1;weaves2;", 0, -1);
        CHECK.fault("rib\n3\n;", 0, -1);
        CHECK.fault("rib 3", 1, 5);
        CHECK.fault("rib 3  ", 1, 7);
        CHECK.fault("rib", 1, 3);
        CHECK.fault("rib ;", 1, 4);
        CHECK.fault("rib x;", 1, 4);
        CHECK.fault("rib 1 2;", 1, 6);
        CHECK.fault("rib 1 12345;", 1, 6);
        CHECK.fault("ribs 1;", 1, 0);
        CHECK.fault("Rib 1;", 1, 0);
        CHECK.fault("xib 1;", 1, 0);
        CHECK.fault("rab 1;", 1, 0);
        CHECK.fault("riz 1;", 1, 0);
        CHECK.fault("12345;", 1, 0);
        CHECK.fault(";", 1, 0);
        CHECK.fault("rib 1;\t", 1, 6);
        CHECK.fault("rib 1;\r", 1, 6);
        CHECK.fault("rib 1;" + (char) 233, 1, 6);
        CHECK.fault("rib 1;" + (char) 0, 1, 6);
        CHECK.fault("strength;", 1, 0);
        CHECK.fault("clans 9 9;", 0, -1);
        CHECK.fault("clans 3;", 1, 7);
        CHECK.fault("clans 3 4 5;", 1, 10);
        CHECK.fault("clans 1 2;clans 1 2;", 5, 10);
        CHECK.fault("rots 1;weaves 1;rots 1;", 5, 16);
        CHECK.fault("weaves 1;rots 1;weaves;", 5, 16);
        CHECK.fault("rots 1;rots @", 5, 7);
        CHECK.fault("verse 1;rib 2;verse 3;jaw 4;", 0, -1);
    }

    private static void tooMany() {
        CHECK.topic("too much");
        CHECK.fault("rib 99;", 0, -1);
        CHECK.fault("rib 0099;", 0, -1);
        CHECK.fault("rib 100;", 2, 4);
        CHECK.fault("jaw 100;", 2, 4);
        CHECK.fault("rib 00099;", 2, 4);
        CHECK.fault("rib 999999999999999999999999;", 2, 4);
        CHECK.fault("clans 10 0;", 2, 6);
        CHECK.fault("clans 0 10;", 2, 8);
        CHECK.fault("verse 4095;", 0, -1);
        CHECK.fault("verse 4096;", 2, 6);
        CHECK.fault("rib 1;".repeat(12), 0, -1);
        CHECK.fault("rib 1;".repeat(12) + "rib", 2, 72);
        CHECK.fault("rib 1;".repeat(11) + "jaw 1;jaw @", 2, 72);
        CHECK.fault("verse 1;".repeat(8), 0, -1);
        CHECK.fault("verse 1;".repeat(8) + "verse", 2, 64);
        CHECK.fault("rots 9999;", 0, -1);
        CHECK.fault("rots 10000;", 2, 5);
        CHECK.fault("rots 00001;", 2, 5);
        CHECK.fault("rots 1 + 10000;", 2, 9);
        CHECK.fault("rots 1 10000;", 1, 7);
    }

    private static void words() {
        CHECK.topic("words of an expression");
        CHECK.fault("rots strength+place+beside+woven+day;", 0, -1);
        CHECK.fault("weaves skill+strength+place+left+day;", 0, -1);
        CHECK.fault("rots skill;", 3, 5);
        CHECK.fault("rots left;", 3, 5);
        CHECK.fault("weaves beside;", 3, 7);
        CHECK.fault("weaves woven;", 3, 7);
        CHECK.fault("rots rib;", 3, 5);
        CHECK.fault("rots or 1;", 3, 5);
        CHECK.fault("rots not and 1;", 3, 9);
        CHECK.fault("rots (left);", 3, 6);
        CHECK.fault("rots 1 + not 1;", 3, 9);
        CHECK.fault("rots 1 < not 1;", 3, 9);
        CHECK.fault("rots 1 * not 1;", 3, 9);
        CHECK.fault("rots 1 and not 1 or not 0;", 0, -1);
        CHECK.fault("rots 1 left;", 1, 7);
        CHECK.fault("rots 1 not 1;", 1, 7);
        CHECK.fault("rots days;", 3, 5);
        CHECK.fault("rots xay;", 3, 5);
        CHECK.fault("rots 1 xr 1;", 1, 7);
        CHECK.fault("rots 1 azd 1;", 1, 7);
    }

    private static void operations() {
        CHECK.topic("operations");
        CHECK.fault("rots ;", 1, 5);
        CHECK.fault("rots", 1, 4);
        CHECK.fault("rots 1", 1, 6);
        CHECK.fault("rots 1 +", 1, 8);
        CHECK.fault("rots 1 + ;", 1, 9);
        CHECK.fault("rots - 1;", 1, 5);
        CHECK.fault("rots 1 > 2;", 1, 7);
        CHECK.fault("rots 1 2;", 1, 7);
        CHECK.fault("rots ();", 1, 6);
        CHECK.fault("rots (1;", 1, 7);
        CHECK.fault("rots (1", 1, 7);
        CHECK.fault("rots 1);", 1, 6);
        CHECK.fault("rots (1));", 1, 8);
        CHECK.fault("rots (1)(2);", 1, 8);
        CHECK.fault("rots 1 < 2 < 3;", 1, 11);
        CHECK.fault("rots 1 < 2 = 3;", 1, 11);
        CHECK.fault("rots 1 = 2 + 3 * 4 < 3;", 1, 19);
        CHECK.fault("rots (1 < 2) < 3;", 0, -1);
        CHECK.fault("rots 1 < (2 < 3);", 0, -1);
        CHECK.fault("rots 1 < 2 and 2 < 3 or 3 = 3;", 0, -1);
        CHECK.fault("rots not 1 < 2;", 0, -1);
        CHECK.fault("rots not 1 < 2 < 3;", 1, 15);
        CHECK.fault("rots 1 == 1;", 1, 8);
    }

    private static void depth() {
        CHECK.topic("depth");
        CHECK.fault("rots (((((1)))));", 0, -1);
        CHECK.fault("rots (((((1)))))+(((((2)))));", 0, -1);
        CHECK.fault("rots ((((((1))))));", 2, 11);
        CHECK.fault("rots ((((((skill", 2, 11);
        CHECK.fault("rots ((((((not 1", 2, 11);
        CHECK.fault("rots (((((((", 2, 11);
        CHECK.fault("rots ((((((12345", 2, 11);
        CHECK.fault("rots (((((()", 1, 11);
        CHECK.fault("rots ((((((+", 1, 11);
        CHECK.fault("rots ((((((@", 1, 11);
        CHECK.fault("rots ((((((", 1, 11);
        CHECK.fault("weaves 1+(2*(3-(4<(5=(6+(7", 2, 25);
        CHECK.fault("rots not not not not not not 1;", 0, -1);
        CHECK.fault("rots not not not not not not not 1;", 2, 29);
        CHECK.fault("rots not not not not not not (not 1);", 0, -1);
        CHECK.fault("rots 1 and not not not not not not 1 or not 1;", 0, -1);
        CHECK.fault("rots not not not not not not or", 3, 29);
    }
}
