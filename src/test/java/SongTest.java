/** Promises 22 to 25, 30 and 33: the song, on the ribs that are left. */
public final class SongTest {
    private static final Checks CHECK = new Checks();
    private static final String JAWS = "jaw 9;jaw 9;jaw 9;jaw 9;jaw 9;";

    public static void main(String[] args) {
        toTell();
        missed();
        between();
        order();
        mirrored();
        both();
        CHECK.close("SongTest");
    }

    private static void toTell() {
        CHECK.topic("promise 22");
        CHECK.due("no verses", 0, CHECK.told(JAWS).toTell());
        CHECK.due("one verse", 0, CHECK.told(JAWS + "verse 7;").toTell());
        CHECK.due("like verses", 0, CHECK.told(JAWS + "verse 7;verse 7;verse 39;").toTell());
        RibLoom x = CHECK.told(JAWS + "verse 21;verse 10;verse 5;");
        CHECK.due("10101, 01010, 00101", 17, x.toTell());
        x.sell(0);
        CHECK.due("without rib 0: ribs 1 and 4", 18, x.toTell());
        x.sell(4);
        CHECK.due("without 4, 21 and 5 are alike: rib 1", 2, x.toTell());
        RibLoom y = CHECK.told(JAWS + "verse 0;verse 1;verse 2;verse 4;");
        CHECK.due("one over each: all three", 7, y.toTell());
        RibLoom z = CHECK.told(JAWS + "verse 0;verse 3;verse 5;verse 6;");
        CHECK.due("any two: the least as bits", 3, z.toTell());
        RibLoom high = CHECK.told(JAWS + "verse 0;verse 24;");
        CHECK.due("rib 3 is less than rib 4", 8, high.toTell());
    }

    private static void missed() {
        CHECK.topic("promise 23");
        RibLoom x = CHECK.told(JAWS + "verse 21;verse 10;verse 5;");
        CHECK.due("rib 4", 4, x.missed());
        x.sell(4);
        CHECK.due("of like ones the least", 0, x.missed());
        x.sell(0);
        CHECK.due("that isn't gone", 1, x.missed());
        RibLoom eight = CHECK.told("jaw 0;".repeat(8) + "jaw 3;jaw 0;jaw 2;"
            + "verse 0;verse 256;verse 1024;verse 1280;verse 511;verse 3;verse 5;verse 9;");
        CHECK.due("rib 8 tells as much as rib 10", 8, eight.missed());
        RibLoom all = CHECK.told("jaw 1;".repeat(12)
            + "verse 0;verse 3;verse 12;verse 48;verse 192;verse 768;verse 3072;verse 4095;");
        CHECK.due("none is missed: the least", 0, all.missed());
        CHECK.due("eight kinds", 8, all.count(9));
        RibLoom quiet = CHECK.told("jaw 0;jaw 3;");
        CHECK.due("without verses", 1, quiet.missed());
        CHECK.due("all are gone", -1, CHECK.told("jaw 0;verse 1;").missed());
    }

    private static void between() {
        CHECK.topic("promise 24");
        RibLoom x = CHECK.told(JAWS + "verse 21;verse 10;verse 5;verse 4074;");
        CHECK.due("between(0, 1)", 5, x.between(0, 1));
        CHECK.due("between(2, 0)", 1, x.between(2, 0));
        CHECK.due("between(1, 1)", 0, x.between(1, 1));
        CHECK.due("ribs that there aren't", 0, x.between(1, 3));
        x.sell(2);
        CHECK.due("without rib 2", 4, x.between(0, 1));
        CHECK.none("between(4, 0)", () -> x.between(4, 0));
        CHECK.none("between(0, 4)", () -> x.between(0, 4));
        CHECK.none("between(-1, 0)", () -> x.between(-1, 0));
        CHECK.none("between(0, -1)", () -> x.between(0, -1));
    }

    private static void order() {
        CHECK.topic("promise 25");
        RibLoom none = CHECK.told(JAWS);
        CHECK.due("without verses", 0, none.order(-1));
        CHECK.none("order(0) without verses", () -> none.order(0));
        RibLoom one = CHECK.told(JAWS + "verse 3;");
        CHECK.due("one: how many", 0, one.order(-1));
        CHECK.due("one: the first", 0, one.order(0));
        CHECK.none("order(1)", () -> one.order(1));
        CHECK.none("order(-2)", () -> one.order(-2));
        RibLoom x = CHECK.told(JAWS + "verse 31;verse 0;verse 15;verse 3;verse 7;verse 1;");
        int[] due = {0, 2, 4, 3, 5, 1};
        CHECK.due("from 31 down to 0", 5, x.order(-1));
        for (int i = 0; i < 6; i++) {
            CHECK.due("order(" + i + ")", due[i], x.order(i));
        }
        // 0 to 1 and back over 2 costs as much as the other way round: the first row counts.
        RibLoom like = CHECK.told(JAWS + "verse 0;verse 1;verse 2;");
        CHECK.due("like rows: how many", 3, like.order(-1));
        CHECK.due("like rows: the second", 1, like.order(1));
        CHECK.due("like rows: the third", 2, like.order(2));
        like.sell(0);
        CHECK.due("without rib 0: how many", 1, like.order(-1));
        CHECK.due("without rib 0: the second", 1, like.order(1));
        RibLoom eight = CHECK.told("jaw 1;".repeat(8) + "verse 0;verse 255;verse 1;verse 127;verse 3;verse 63;verse 7;verse 31;");
        int[] long8 = {0, 2, 4, 6, 7, 5, 3, 1};
        CHECK.due("eight: how many", 8, eight.order(-1));
        for (int i = 0; i < 8; i++) {
            CHECK.due("eight: order(" + i + ")", long8[i], eight.order(i));
        }
    }

    private static void mirrored() {
        CHECK.topic("promise 30");
        RibLoom x = CHECK.told(JAWS + "verse 21;verse 3;verse 5;verse 24;verse 24;");
        CHECK.due("itself", 0, x.mirrored(0));
        CHECK.due("of like ones the least", 3, x.mirrored(1));
        CHECK.due("the other way", 1, x.mirrored(3));
        CHECK.due("none", -1, x.mirrored(2));
        CHECK.none("mirrored(5)", () -> x.mirrored(5));
        CHECK.none("mirrored(-1)", () -> x.mirrored(-1));
        x.sell(3);
        // Left are ribs 0, 1, 2, 4: 5 is 1010, which is 0101 the other way; 3 is 1100, 24 is 0001.
        CHECK.due("none is 0101", -1, x.mirrored(2));
        CHECK.due("none is 0011", -1, x.mirrored(1));
        x.sell(0);
        // Left are ribs 1, 2, 4: 21 is 011, 3 is 100, 5 is 010, 24 is 001.
        CHECK.due("100 is 001", 3, x.mirrored(1));
        CHECK.due("010 is itself", 2, x.mirrored(2));
        CHECK.due("011 has none", -1, x.mirrored(0));
        CHECK.due("all gone: the least", 0, CHECK.told("jaw 0;verse 0;verse 1;").mirrored(1));
    }

    private static void both() {
        CHECK.topic("promise 33");
        RibLoom x = CHECK.told(JAWS + "verse 21;verse 10;verse 4095;");
        CHECK.due("both(0, 1)", 0, x.both(0, 1));
        CHECK.due("both(0, 2)", 21, x.both(0, 2));
        CHECK.due("both(2, 2)", 31, x.both(2, 2));
        x.sell(2);
        CHECK.due("without rib 2", 17, x.both(2, 0));
        CHECK.none("both(3, 0)", () -> x.both(3, 0));
        CHECK.none("both(0, 3)", () -> x.both(0, 3));
        CHECK.none("both(-1, 0)", () -> x.both(-1, 0));
        CHECK.none("both(0, -1)", () -> x.both(0, -1));
    }
}
