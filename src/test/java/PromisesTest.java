import java.nio.ByteBuffer;
import java.nio.charset.StandardCharsets;
import java.util.Arrays;

/** For each promise of the document: ordinary inputs, the edges that it names, wrong inputs; answers by hand. */
public final class PromisesTest {
    private static int wrong = 0;
    private static int asked = 0;

    private static void due(int promise, String call, long got, long want) {
        asked++;
        if (got != want) {
            wrong++;
            System.out.println("promise " + promise + ": " + call + " answered " + got + ", due is " + want);
        }
    }

    /**
     * Year 0: 1 to 0 -7, 2 to 0 -9, 3 to 0 -2, 1 to 2 60, 0 to 1 -1. Year 1: -3, -4, -1, 30, 0.
     * Year 2: -1, -2, -40, 15, 0.
     */
    private static final String HALVES = "land years 3 law 2 odds 5;"
        + "person 0 1;person 1;person;person 0;"
        + "hates 1 0 9;hates 2 0 9;likes 3 0 4;likes 1 2 60;hates 0 1 1;hates 1 0 7;"
        + "wrong 0 3 6 at 0;wrong 0 3 40 at 2;wrong 1 2 5 at 7;"
        + "post at 0 0;post at 2 0 1;post at 0;post at 5 1;";

    /** Four who hate in a ring and across; nothing fades. */
    private static final String RING = "land years 2 law 0 odds 0;person 0;person 0;person 0;person 0;"
        + "hates 0 1 5;hates 1 2 5;hates 2 0 5;hates 1 0 2;likes 0 3 8;likes 1 3 9;likes 2 3 9;post at 0 0;post at 1 0;";

    /** 2 hates 0 by 1 and 1 by 3; a thaw takes the first hate away. */
    private static final String THAW = "land years 2 law 0 odds 3;person 0;person 0;person;hates 2 0 1;hates 2 1 3;"
        + "post at 0 0;post at 1 0;";

    private static EnemyLetters land(String text) {
        EnemyLetters x = new EnemyLetters();
        tell(x, text);
        return x;
    }

    private static int tell(EnemyLetters x, String text) {
        x.end(0);
        byte[] bytes = text.getBytes(StandardCharsets.ISO_8859_1);
        byte[] padded = Arrays.copyOf(bytes, (bytes.length + 19) / 20 * 20);
        ByteBuffer b = ByteBuffer.wrap(padded);
        while (b.remaining() >= 20) {
            x.feed(b.getInt(), b.getInt(), b.getInt(), b.getInt(), b.getInt());
        }
        x.end(bytes.length);
        return x.land();
    }

    public static void main(String[] args) {
        newObject();
        tape();
        landsRead();
        faults();
        told();
        feelings();
        fading();
        feelingsAsked();
        wrongsAsked();
        hatesAsked();
        words();
        posts();
        postsAsked();
        leasts();
        learning();
        choices();
        laws();
        seen();
        shares();
        game();
        chances();
        acts();
        draws();
        rates();
        counts();
        images();
        slots();
        nothingWithoutLand();
        System.out.println(asked - wrong + " answers as due, " + wrong + " not");
        if (wrong != 0) {
            System.exit(1);
        }
    }

    private static void newObject() {
        EnemyLetters x = new EnemyLetters();
        for (int i = 0; i <= 10; i++) {
            due(1, "count(" + i + ") of a new object", x.count(i), 0);
        }
        due(1, "given() of a new object", x.given(), -2);
        due(1, "skills(0) of a new object", x.skills(0), -2);
        due(1, "NONE", EnemyLetters.NONE, -1);
    }

    private static void tape() {
        EnemyLetters x = new EnemyLetters();
        for (int i = 1; i <= 40; i++) {
            due(2, "feed " + i, x.feed(0x20202020, 0, 0, 0, 0), 20 * i);
        }
        due(2, "feed beyond 800", x.feed(1, 2, 3, 4, 5), -1);
        due(2, "bytes after it", x.count(9), 800);
        due(3, "end(801)", x.end(801), -1);
        due(3, "end(-1)", x.end(-1), -1);
        due(3, "end(800)", x.end(800), 800);
        due(3, "end(781)", x.end(781), 781);
        due(2, "feed of 781", x.feed(1, 2, 3, 4, 5), -1);
        due(3, "end(780)", x.end(780), 780);
        due(2, "feed of 780", x.feed(1, 2, 3, 4, 5), 800);
        due(3, "end(0)", x.end(0), 0);
        due(3, "bytes after it", x.count(9), 0);
        due(3, "end(1) of none", x.end(1), -1);
        // 'land years 1 law 0 o' and 'dds 0;': the highest byte of a number first
        x.feed(0x6c616e64, 0x20796561, 0x72732031, 0x206c6177, 0x2030206f);
        x.feed(0x64647320, 0x303b2020, 0x20202020, 0x20202020, 0x2020203b);
        due(3, "end(39), the sign ; behind cut", x.end(39), 39);
        due(2, "land() of bytes", x.land(), 1);
    }

    private static void landsRead() {
        EnemyLetters x = land(HALVES);
        due(4, "lines", x.count(8), 18);
        due(4, "the tape is empty", x.count(9), 0);
        x.wrongs(0, 1, 3, 0);
        due(4, "a fault's land()", tell(x, "land years 1;"), -4);
        due(4, "all stays: persons", x.count(3), 4);
        due(4, "all stays: acts", x.count(7), 1);
        due(4, "the tape is empty behind a fault", x.count(9), 0);
        due(4, "another land", tell(x, "land years 12 law 3 odds 10 ;"), 1);
        due(4, "nothing done", x.count(7), 0);
        due(4, "no persons", x.count(3), 0);
        due(4, "years", x.count(0), 12);
        due(4, "blanks alone", tell(x, " \n "), 0);
        due(4, "there is none then", x.given(), -2);
        due(4, "years of none", x.count(0), 0);
        due(4, "tight", tell(x, "land years1law0odds0;person012;"), -4);
        due(4, "12 is one number", x.fault(1), 27);
        due(4, "tight, blanks where due", tell(x, "land years1law0odds0;person0 1\n2;post at3;"), 3);
        due(4, "skills of it", x.skills(0), 7);
        due(4, "leading zeros", tell(x, "land years 0001 law 00 odds 010;person 00 01;"), 2);
        due(4, "odds of it", x.count(2), 10);
        due(4, "the most of all", tell(x, most()), 40);
        due(4, "bonds of it", x.count(4), 20);
        due(4, "all skills", x.skills(5), 63);
    }

    private static String most() {
        return "land years 12 law 3 odds 10;" + "person;".repeat(5) + "person 5 4 3 2 1 0;" + "likes 0 1 1;".repeat(10)
            + "hates 1 0 60;".repeat(10) + "wrong 0 1 40 at 11;".repeat(8) + "post at 11 0 1 2 3 4 5;".repeat(5);
    }

    private static void fault(String text, int kind, int place) {
        EnemyLetters x = new EnemyLetters();
        due(5, "land() of " + text, tell(x, text), -4);
        due(5, "fault(0) of " + text, x.fault(0), kind);
        due(5, "fault(1) of " + text, x.fault(1), place);
    }

    private static void faults() {
        EnemyLetters x = new EnemyLetters();
        due(5, "fault(0) ahead of any", x.fault(0), 0);
        due(5, "fault(1) ahead of any", x.fault(1), -1);
        due(5, "fault(2)", x.fault(2), -1);
        due(5, "fault(-1)", x.fault(-1), -1);
        String a = "land years 2 law 3 odds 9;";
        fault(";", 1, 0);
        fault("person;", 1, 0);
        fault(" 3", 1, 1);
        fault("Land years 2", 1, 0);
        fault("landy", 1, 0);
        fault("land", 1, 4);
        fault("land  ", 1, 6);
        fault("land years 2 law 3 odds 9", 1, 25);
        fault("land year 2", 1, 5);
        fault("land years 0 law", 2, 11);
        fault("land years 13", 2, 11);
        fault("land years 99999999999999999999 ", 2, 11);
        fault("land years 4294967297 law 0 odds 0;", 2, 11);
        fault("land years law", 1, 11);
        fault("land years 1 law 4", 2, 17);
        fault("land years 1 law 0 odds 11", 2, 24);
        fault("land years 1 law 0 odds 1 1;", 1, 26);
        fault(a + ";", 1, 26);
        fault(a + "5;", 1, 26);
        fault(a + "land years 1 law 0 odds 0;", 1, 26);
        fault(a + "people;", 1, 26);
        fault(a + "personz;", 1, 26);
        fault(a + "persona;", 1, 26);
        fault(a + "person{;", 1, 32);
        fault(a + "person`;", 1, 32);
        fault(a + "person/;", 1, 32);
        fault(a + "person:;", 1, 32);
        fault(a + "person 0 9;", 2, 35);
        fault(a + "\tperson;", 1, 26);
        fault(a + "person \u00e9;", 1, 33);
        fault(a + "person 6;", 2, 33);
        fault(a + "person 0 5 0;", 2, 37);
        fault(a + "person 0 1 2 3 4 5 5;", 2, 45);
        fault(a + "person x", 1, 33);
        fault(a + "person 0 person;", 1, 35);
        fault(a + "likes 0 1 1;", 2, 32);
        fault(a + "person;likes 0 1 1;", 2, 41);
        fault(a + "person;person;likes 1 1 1;", 2, 48);
        fault(a + "person;person;hates 1 0 0;", 2, 50);
        fault(a + "person;person;hates 1 0 61;", 2, 50);
        fault(a + "person;person;hates 1 0;", 1, 49);
        fault(a + "person;person;wrong 1 0 0 at 0;", 2, 50);
        fault(a + "person;person;wrong 1 0 41 at 0;", 2, 50);
        fault(a + "person;person;wrong 1 0 40 0;", 1, 53);
        fault(a + "person;person;wrong 1 0 40 at 12;", 2, 56);
        fault(a + "person;person;wrong 1 2 40 at 12;", 2, 48);
        fault(a + "person;person;wrong 1 0 40 at 1 1;", 1, 58);
        fault(a + "post 1", 1, 31);
        fault(a + "post at 12", 2, 34);
        fault(a + "post at 1 6", 2, 36);
        fault(a + "post at 1 0 0", 2, 38);
        fault(a + "post at;", 1, 33);
        fault(a + "person;".repeat(6) + "person 9", 3, 68);
        fault(a + "person;".repeat(2) + "likes 0 1 1;".repeat(20) + "hates 0 9", 3, 280);
        fault(a + "person;".repeat(2) + "wrong 0 1 1 at 0;".repeat(8) + "wrong", 3, 176);
        fault(a + "post at 0;".repeat(5) + "post", 3, 76);
        tell(x, "?");
        due(5, "fault(0) of one", x.fault(0), 1);
        tell(x, a);
        due(5, "fault(0) behind a good one", x.fault(0), 0);
        due(5, "fault(1) behind a good one", x.fault(1), -1);
        tell(x, "?");
        tell(x, "");
        due(5, "fault(0) behind an empty one", x.fault(0), 0);
    }

    private static void told() {
        EnemyLetters x = land(HALVES);
        due(6, "skills(0)", x.skills(0), 3);
        due(6, "skills(2)", x.skills(2), 0);
        due(6, "skills(4)", x.skills(4), -2);
        due(6, "skills(-1)", x.skills(-1), -2);
        due(7, "needs(1)", x.needs(1), 3);
        due(7, "needs(2)", x.needs(2), 0);
        due(7, "needs(4)", x.needs(4), -2);
        due(7, "needs(-1)", x.needs(-1), -2);
        due(8, "year(1)", x.year(1), 2);
        due(8, "year(3), of no year there is", x.year(3), 5);
        due(8, "year(4)", x.year(4), -2);
        due(8, "year(-1)", x.year(-1), -2);
    }

    private static void feelings() {
        EnemyLetters x = land(HALVES);
        int[][] want = {{1, 0, -7, -3, -1}, {2, 0, -9, -4, -2}, {3, 0, -2, -1, -40}, {1, 2, 60, 30, 15},
            {0, 1, -1, 0, 0}, {2, 1, 0, 0, 0}};
        for (int[] w : want) {
            for (int y = 0; y < 3; y++) {
                due(9, "feels(" + w[0] + ", " + w[1] + ", " + y + ")", x.feels(w[0], w[1], y), w[2 + y]);
            }
        }
        due(9, "feels(0, 0, 0)", x.feels(0, 0, 0), -1000);
        due(9, "feels(4, 0, 0)", x.feels(4, 0, 0), -1000);
        due(9, "feels(0, -1, 0)", x.feels(0, -1, 0), -1000);
        due(9, "feels(0, 1, 3)", x.feels(0, 1, 3), -1000);
        due(9, "feels(0, 1, -1)", x.feels(0, 1, -1), -1000);
    }

    private static int at(String law, int year) {
        return land("land years 3 law " + law + " odds 0;person;person;hates 0 1 5;likes 1 0 5;").feels(0, 1, year);
    }

    private static void fading() {
        due(9, "law 0", at("0", 2), -5);
        due(9, "law 1", at("1", 2), -3);
        due(9, "law 2", at("2", 1), -2);
        due(9, "law 3", at("3", 2), -3);
        String two = " odds 0;person;person;likes 1 0 3;hates 0 1 1;";
        due(9, "likes by law 1", land("land years 6 law 1" + two).feels(1, 0, 2), 1);
        due(9, "likes by law 1 stop at 0", land("land years 6 law 1" + two).feels(1, 0, 5), 0);
        due(9, "hates by law 1 stop at 0", land("land years 6 law 1" + two).feels(0, 1, 5), 0);
        due(9, "likes by law 2", land("land years 6 law 2" + two).feels(1, 0, 1), 1);
        due(9, "likes by law 3", land("land years 6 law 3" + two).feels(1, 0, 5), 3);
        due(9, "hates by law 3 stop at 0", land("land years 6 law 3" + two).feels(0, 1, 5), 0);
        EnemyLetters x = land("land years 2 law 1 odds 0;person;person;hates 0 1 50;wrong 1 0 40 at 0;wrong 1 0 1 at 1;");
        due(9, "-60 at least", x.feels(0, 1, 0), -60);
        due(9, "from -60 on", x.feels(0, 1, 1), -60);
    }

    private static void feelingsAsked() {
        EnemyLetters x = land(HALVES);
        due(10, "enemies(0, 0)", x.enemies(0, 0), 14);
        due(10, "enemies(1, 0)", x.enemies(1, 0), 1);
        due(10, "enemies(1, 1)", x.enemies(1, 1), 0);
        due(10, "enemies(4, 0)", x.enemies(4, 0), -2);
        due(10, "enemies(0, 3)", x.enemies(0, 3), -2);
        due(11, "friends(2, 0)", x.friends(2, 0), 2);
        due(11, "friends(0, 0)", x.friends(0, 0), 0);
        due(11, "friends(-1, 0)", x.friends(-1, 0), -2);
        due(11, "friends(0, -1)", x.friends(0, -1), -2);
        due(12, "hate(0, 0)", x.hate(0, 0), 18);
        due(12, "hate(0, 2)", x.hate(0, 2), 43);
        due(12, "hate(2, 0)", x.hate(2, 0), 0);
        due(12, "hate(4, 0)", x.hate(4, 0), -2);
        due(12, "hate(0, 3)", x.hate(0, 3), -2);
        due(13, "worst(0, 0)", x.worst(0, 0), 2);
        due(13, "worst(0, 2)", x.worst(0, 2), 3);
        due(13, "worst(3, 0)", x.worst(3, 0), -1);
        due(13, "worst(4, 0)", x.worst(4, 0), -2);
        due(13, "worst(0, 3)", x.worst(0, 3), -2);
        due(13, "worst(0, 0), the first of several", land("land years 1 law 0 odds 0;person;person;person;hates 2 0 4;"
            + "hates 1 0 4;").worst(0, 0), 1);
        due(14, "mild(0, 0)", x.mild(0, 0), 0);
        due(14, "mild(2, 0)", x.mild(2, 0), 2);
        due(14, "mild(1, 1)", x.mild(1, 1), 3);
        due(14, "mild(4, 0)", x.mild(4, 0), -2);
        due(14, "mild(0, 3)", x.mild(0, 3), -2);
        due(15, "bitter(0)", x.bitter(0), 15);
        due(15, "bitter(1)", x.bitter(1), 14);
        due(15, "bitter(3)", x.bitter(3), -2);
        due(15, "bitter(-1)", x.bitter(-1), -2);
        due(17, "dearest(2, 0)", x.dearest(2, 0), 1);
        due(17, "dearest(0, 0)", x.dearest(0, 0), -1);
        due(17, "dearest(3, 0) of a ring, the first of several", land(RING).dearest(3, 0), 1);
        due(17, "dearest(4, 0)", x.dearest(4, 0), -2);
        due(17, "dearest(0, 3)", x.dearest(0, 3), -2);
        due(18, "foe(1, 0)", x.foe(1, 0), 0);
        due(18, "foe(0, 1)", x.foe(0, 1), -1);
        due(18, "foe(1, 0) of a ring", land(RING).foe(1, 0), 2);
        due(18, "foe(2, 0), the first of several",
            land("land years 1 law 0 odds 0;person;person;person;hates 2 1 4;hates 2 0 4;").foe(2, 0), 0);
        due(18, "foe(4, 0)", x.foe(4, 0), -2);
        due(18, "foe(0, -1)", x.foe(0, -1), -2);
        due(19, "steady(2, 1)", x.steady(2, 1), 2);
        due(19, "steady(0, 1)", x.steady(0, 1), 1);
        due(19, "steady(1, 0)", x.steady(1, 0), 0);
        due(19, "steady(1, 1)", x.steady(1, 1), -2);
        due(19, "steady(4, 1)", x.steady(4, 1), -2);
        due(20, "cold(0)", x.cold(0), 2);
        due(20, "cold(1)", x.cold(1), 2);
        due(20, "cold(3)", x.cold(3), -2);
        due(20, "cold(-1)", x.cold(-1), -2);
    }

    private static void wrongsAsked() {
        EnemyLetters x = land(HALVES);
        due(21, "harms(0)", x.harms(0), 46);
        due(21, "harms(1), in no year there is", x.harms(1), 0);
        due(21, "harms(4)", x.harms(4), -2);
        due(22, "hurts(3)", x.hurts(3), 46);
        due(22, "hurts(2)", x.hurts(2), 0);
        due(22, "hurts(-1)", x.hurts(-1), -2);
        x.wrongs(1, 2, 40, 1);
        x.wrongs(1, 2, 40, 2);
        x.amends(1, 2, 2);
        due(21, "harms(1) by acts", x.harms(1), 80);
        due(22, "hurts(2) by acts", x.hurts(2), 80);
        due(23, "all(0)", land(HALVES).all(0), 19);
        due(23, "all(1)", land(HALVES).all(1), 8);
        due(23, "all(3)", x.all(3), -2);
        due(23, "all(-1)", x.all(-1), -2);
    }

    private static void hatesAsked() {
        EnemyLetters x = land(HALVES);
        due(27, "sours(0, 1)", x.sours(0, 1), 0);
        due(27, "sours(0, 2)", x.sours(0, 2), -1);
        due(27, "sours(1, 1)", x.sours(1, 1), -2);
        due(27, "sours(1, 4)", x.sours(1, 4), -2);
        x.wrongs(2, 0, 1, 2);
        due(27, "sours(0, 2) by an act", x.sours(0, 2), 2);
        due(28, "years(1, 0)", x.years(1, 0), 3);
        due(28, "years(0, 1)", x.years(0, 1), 1);
        due(28, "years(0, 3)", x.years(0, 3), 0);
        due(28, "years(0, 0)", x.years(0, 0), -2);
        due(28, "years(-1, 0)", x.years(-1, 0), -2);
        due(29, "lowest(3, 0)", x.lowest(3, 0), -40);
        due(29, "lowest(1, 2)", x.lowest(1, 2), 15);
        due(29, "lowest(2, 2)", x.lowest(2, 2), -1000);
        due(29, "lowest(2, 4)", x.lowest(2, 4), -1000);
        due(30, "hated(0)", x.hated(0), 0);
        due(30, "hated(3)", x.hated(3), -2);
        due(30, "hated(0), the first of several",
            land("land years 1 law 0 odds 0;person;person;person;hates 0 2 4;hates 0 1 4;").hated(0), 1);
        due(30, "hated(0) of none", land("land years 1 law 0 odds 0;person;person;likes 0 1 4;").hated(0), -1);
        due(31, "porter(0): most like, not as much", land("land years 1 law 0 odds 0;person;person;person;person;"
            + "likes 0 1 60;likes 0 2 1;likes 1 2 1;hates 3 0 1;").porter(0), 2);
        due(31, "porter(0): the first of several", land(HALVES).porter(1), 2);
        due(31, "porter(0): liked, but hated", land("land years 1 law 0 odds 0;person;person;person;likes 1 0 5;"
            + "hates 2 0 1;").porter(0), 1);
        due(31, "porter(0): none", land("land years 1 law 0 odds 0;person;person;hates 0 1 1;hates 1 0 1;").porter(0), -1);
        due(31, "porter(0): no persons", land("land years 1 law 0 odds 0;").porter(0), -1);
        due(31, "porter(3)", x.porter(3), -2);
        EnemyLetters ring = land(RING);
        due(32, "mutual(0)", ring.mutual(0), 1);
        due(32, "mutual(0) of none", land(THAW).mutual(0), 0);
        due(32, "mutual(2)", ring.mutual(2), -2);
        due(33, "rings(0)", ring.rings(0), 1);
        due(33, "rings(2)", ring.rings(2), -2);
        due(33, "rings(-1)", ring.rings(-1), -2);
        ring.wrongs(1, 2, 1, 1);
        ring.wrongs(2, 1, 9, 1);
        ring.wrongs(2, 0, 9, 1);
        due(33, "rings(1), both ways round are one", ring.rings(1), 1);
        due(32, "mutual(1)", ring.mutual(1), 3);
        due(33, "rings(0) stays", ring.rings(0), 1);
        due(33, "rings(0), no way round", land("land years 1 law 0 odds 0;person;person;person;hates 0 1 1;hates 0 2 1;"
            + "hates 1 2 1;").rings(0), 0);
    }

    private static void words() {
        EnemyLetters x = land(HALVES);
        due(34, "word(0, 0)", x.word(0, 0), 9);
        due(34, "word(0, 1)", x.word(0, 1), 42);
        due(34, "word(1, 0), he can't", x.word(1, 0), -1);
        due(34, "word(3, 0), nobody hates him", x.word(3, 0), -1);
        due(34, "word(3, 2), it needs none", x.word(3, 2), 0);
        due(34, "word(0, 3), of no year", x.word(0, 3), -1);
        due(34, "word(4, 0)", x.word(4, 0), -2);
        due(34, "word(0, 4)", x.word(0, 4), -2);
        due(34, "word(-1, 0)", x.word(-1, 0), -2);
        due(35, "pens(0, 0)", x.pens(0, 0), 4);
        due(35, "pens(0, 1)", x.pens(0, 1), 12);
        due(35, "pens(1, 0)", x.pens(1, 0), -1);
        due(35, "pens(0, 2)", x.pens(0, 2), 0);
        due(35, "pens(0, 3)", x.pens(0, 3), -1);
        due(35, "pens(4, 0)", x.pens(4, 0), -2);
        due(35, "pens(0, -1)", x.pens(0, -1), -2);
        String four = "land years 1 law 0 odds 0;person 0 1;person;person;person;hates 3 0 5;hates 2 0 5;hates 1 0 5;";
        due(35, "pens(0, 0), the first of several", land(four + "post at 0 0 1;").pens(0, 0), 6);
        due(34, "word(0, 0), not so many", land("land years 1 law 0 odds 0;person 0 1 2 3 4 5;person;hates 1 0 5;"
            + "post at 0 4 5;").word(0, 0), -1);
        due(16, "praise(0)", x.praise(0), 51);
        due(16, "praise(3)", x.praise(3), 0);
        due(16, "praise(4)", x.praise(4), -2);
        due(24, "top(0)", x.top(0), 9);
        due(24, "top(1), whether he has a post or not", x.top(1), 42);
        due(24, "top(2)", x.top(2), 0);
        due(24, "top(3)", x.top(3), -1);
        due(24, "top(4)", x.top(4), -2);
        due(38, "may(0)", x.may(0), 1);
        due(38, "may(2)", x.may(2), 15);
        due(38, "may(3)", x.may(3), 0);
        due(38, "may(-1)", x.may(-1), -2);
        due(43, "hopes(0)", x.hopes(0), 7);
        due(43, "hopes(1)", x.hopes(1), 4);
        due(43, "hopes(4)", x.hopes(4), -2);
        due(44, "lacks(2, 1)", x.lacks(2, 1), 3);
        due(44, "lacks(1, 1)", x.lacks(1, 1), 1);
        due(44, "lacks(1, 3)", x.lacks(1, 3), 0);
        due(44, "lacks(4, 0)", x.lacks(4, 0), -2);
        due(44, "lacks(0, 4)", x.lacks(0, 4), -2);
    }

    private static void posts() {
        EnemyLetters x = land(HALVES);
        due(36, "gets(0)", x.gets(0), 0);
        due(36, "gets(1), he has one already", x.gets(1), -1);
        due(36, "gets(2), the first of several with none so far", x.gets(2), 1);
        due(36, "gets(3)", x.gets(3), -1);
        due(36, "gets(4)", x.gets(4), -2);
        due(37, "has(0)", x.has(0), 0);
        due(37, "has(1)", x.has(1), 2);
        due(37, "has(2)", x.has(2), -1);
        due(37, "has(-1)", x.has(-1), -2);
        EnemyLetters late = land("land years 3 law 0 odds 0;person;person;post at 2;post at 1;post at 1;");
        due(36, "gets(0), by years", late.gets(0), -1);
        due(36, "gets(1), by years", late.gets(1), 0);
        due(36, "gets(2), of one year by numbers", late.gets(2), 1);
        due(26, "first() by years", late.first(), 1);
        due(26, "first()", x.first(), 0);
        due(26, "first() of none", land("land years 1 law 0 odds 0;post at 0;").first(), -1);
        due(41, "given()", x.given(), 5);
        due(41, "given() by years", late.given(), 6);
        due(42, "idle()", x.idle(), 12);
        due(42, "idle() of nobody", late.idle(), 0);
    }

    private static void postsAsked() {
        EnemyLetters x = land(HALVES);
        due(25, "next(0)", x.next(0), -1);
        due(25, "next(1), only one who has a post", x.next(1), -1);
        due(25, "next(2)", x.next(2), 2);
        due(25, "next(3)", x.next(3), -1);
        due(25, "next(4)", x.next(4), -2);
        EnemyLetters thaw = land(THAW);
        due(25, "next(0) of two", thaw.next(0), 0);
        due(25, "next(1): 1 has got one", thaw.next(1), -1);
        due(39, "edge(0) of two", thaw.edge(0), 2);
        due(39, "edge(1) of one", thaw.edge(1), -1);
        due(39, "edge(0)", x.edge(0), -1);
        due(39, "edge(1), nobody gets it", x.edge(1), -1);
        due(39, "edge(2)", x.edge(2), 0);
        due(39, "edge(4)", x.edge(4), -2);
        due(40, "writes(2)", x.writes(2), 1);
        due(40, "writes(3), for nobody who gets it", x.writes(3), 0);
        due(40, "writes(2) for two", thaw.writes(2), 2);
        due(40, "writes(4)", x.writes(4), -2);
        // who gets a later post is none ahead of an earlier one
        EnemyLetters back = land("land years 2 law 0 odds 0;person 0;person 0;hates 1 0 2;hates 0 1 9;post at 1 0;post at 0;");
        due(25, "next(0) where 0 has an earlier one", back.next(0), -1);
        due(25, "next(1): he who gets a later one", back.next(1), 1);
        due(39, "edge(1) of 0 to 0", back.edge(1), 0);
    }

    private static void leasts() {
        EnemyLetters x = land(THAW);
        due(45, "least(0, 2, 0)", x.least(0, 2, 0), 2);
        due(45, "least(0, 1, 0)", x.least(0, 1, 0), 3);
        due(45, "least(1, 0, 0), he gets it", x.least(1, 0, 0), 0);
        due(45, "least(2, 0, 0), he can't", x.least(2, 0, 0), -1);
        due(45, "least(0, 0, 0)", x.least(0, 0, 0), -2);
        due(45, "least(3, 0, 0)", x.least(3, 0, 0), -2);
        due(45, "least(0, 3, 0)", x.least(0, 3, 0), -2);
        due(45, "least(0, 1, 2)", x.least(0, 1, 2), -2);
        due(45, "nothing is done", x.harms(0), 0);
        due(46, "target(0, 0)", x.target(0, 0), 2);
        due(46, "target(1, 0), the first of several", x.target(1, 0), 0);
        due(46, "target(2, 0)", x.target(2, 0), -1);
        due(46, "target(3, 0)", x.target(3, 0), -2);
        due(46, "target(0, 2)", x.target(0, 2), -2);
        due(46, "target of one alone", land("land years 1 law 0 odds 0;person;post at 0;").target(0, 0), -1);
        EnemyLetters y = land("land years 1 law 0 odds 0;person 0;person 0;person;hates 0 1 60;likes 1 0 60;likes 2 0 60;"
            + "post at 0 0;");
        due(45, "least(0, 1, 0): 60 and 60", y.least(0, 1, 0), 120);
        due(45, "least(0, 2, 0): as much, the first", y.least(0, 2, 0), 120);
        EnemyLetters z = land("land years 1 law 0 odds 0;person;person 0;person 0;hates 2 1 60;likes 1 2 60;post at 0 0;");
        due(45, "least(2, 1, 0): never above 60", z.least(2, 1, 0), -1);
        // behind all of year 0: amends first, then the wrong
        z.amends(1, 2, 0);
        z.wrongs(1, 2, 5, 0);
        z.amends(2, 1, 0);
        due(45, "least(2, 1, 0) behind amends", z.least(2, 1, 0), 66);
        // to be hated by more takes an earlier post, and with it the later one is gone
        EnemyLetters w = land("land years 2 law 1 odds 0;person 0;person 0;person;hates 2 1 4;post at 0 0;post at 1 0;");
        due(45, "least(0, 2, 1): by a little", w.least(0, 2, 1), 2);
        due(45, "least(0, 2, 0): by more", w.least(0, 2, 0), 4);
    }

    private static void learning() {
        EnemyLetters x = land("land years 2 law 0 odds 0;person;person 0;person 5;hates 2 0 3;hates 1 0 5;hates 0 1 4;"
            + "post at 0 0;post at 1 4 5;post at 1;post at 7;");
        due(47, "learns(0, 0)", x.learns(0, 0), 1);
        due(47, "learns(0, 1)", x.learns(0, 1), 48);
        due(47, "learns(1, 0), he gets it", x.learns(1, 0), 0);
        due(47, "learns(0, 2), he gets it", x.learns(0, 2), 0);
        due(47, "learns(2, 0), nobody hates him", x.learns(2, 0), -1);
        due(47, "learns(1, 1), he has another one", x.learns(1, 1), -1);
        due(47, "learns(2, 2), another one is first", x.learns(2, 2), -1);
        due(47, "learns(0, 3)", x.learns(0, 3), -1);
        due(47, "learns(3, 0)", x.learns(3, 0), -2);
        due(47, "learns(0, 4)", x.learns(0, 4), -2);
        due(47, "skills stay", x.skills(0), 0);
    }

    private static void choices() {
        EnemyLetters x = land(THAW);
        due(48, "best()", x.best(), 6);
        due(49, "put(0)", x.put(0), 0);
        due(49, "put(1)", x.put(1), 1);
        due(49, "put(2)", x.put(2), -2);
        due(49, "put(-1)", x.put(-1), -2);
        due(50, "ways()", x.ways(), 2);
        EnemyLetters none = land("land years 1 law 0 odds 0;person;");
        due(48, "best() without posts", none.best(), 0);
        due(50, "ways() without posts", none.ways(), 1);
        EnemyLetters few = land("land years 1 law 0 odds 0;person;post at 0;post at 0;post at 1;");
        due(48, "best() of one for two", few.best(), 1);
        due(49, "put(0): nobody first", few.put(0), -1);
        due(49, "put(1)", few.put(1), 0);
        due(49, "put(2), of no year", few.put(2), -1);
        due(50, "ways() of one for two", few.ways(), 2);
        EnemyLetters halves = land(HALVES);
        due(48, "best() above what is given", halves.best(), 44);
        due(49, "put(0)", halves.put(0), -1);
        due(49, "put(1)", halves.put(1), 0);
        due(49, "put(2)", halves.put(2), 1);
        due(50, "ways(): 1, 2 or 3", halves.ways(), 3);
    }

    private static void laws() {
        // 0 is hated by 2 by 2: gone by law 1 and 3 in year 2, by law 2 too
        EnemyLetters x = land("land years 3 law 1 odds 0;person 0;person;person;hates 2 0 2;post at 2 0;post at 0;");
        due(51, "by(0), 0 has the other one", x.by(0), 1);
        due(51, "by(4)", x.by(4), -2);
        due(51, "by(-1)", x.by(-1), -2);
        EnemyLetters y = land("land years 3 law 1 odds 0;person 0;person;person;hates 2 0 2;post at 2 0;post at 2;");
        due(51, "by(0)", y.by(0), 2);
        due(51, "by(1)", y.by(1), 1);
        due(51, "by(2)", y.by(2), 1);
        due(51, "by(3)", y.by(3), 1);
        due(52, "law()", y.law(), 0);
        // by law 2 a great hate goes to 1, a like of 3 stays above a wrong of 2 in laws 0 and 3 alone
        EnemyLetters z = land("land years 2 law 0 odds 0;person 0;person;likes 1 0 3;wrong 0 1 2 at 1;post at 1 0;");
        due(51, "by(0) of a like", z.by(0), 0);
        due(51, "by(1) of a like", z.by(1), 0);
        due(51, "by(2) of a like", z.by(2), 1);
        due(51, "by(3) of a like", z.by(3), 0);
        due(52, "law() of a like", z.law(), 2);
        due(52, "law(), the least of several", x.law(), 0);
        // without wrong 1 person 0 leaves the first post to 1 and takes the other one, that 1 can't
        EnemyLetters s = land("land years 1 law 0 odds 0;person 0 1;person 0;person;hates 2 0 3;hates 2 1 4;"
            + "wrong 1 2 1 at 5;wrong 0 2 9 at 0;post at 0 0;post at 0 1;");
        due(53, "spare()", s.spare(), 1);
        due(53, "given() stays", s.given(), 1);
        due(53, "spare() of none", x.spare(), -1);
        // each of two wrongs alone does it: the first
        EnemyLetters t = land("land years 1 law 0 odds 0;person 0 1;person 0;person;hates 2 0 3;hates 2 1 8;"
            + "wrong 0 2 3 at 0;wrong 0 2 3 at 0;post at 0 0;post at 0 1;");
        due(53, "spare(), the first of several", t.spare(), 0);
        due(53, "spare(), if more than now", land(THAW).spare(), -1);
    }

    private static void seen() {
        // 0 is hated by 3, 1 by 5: post 0 needs skill 0, post 1 skill 1
        EnemyLetters x = land("land years 1 law 0 odds 0;person;person 0 1;person;hates 2 0 3;hates 2 1 5;"
            + "post at 0 0;post at 0 1;post at 9;");
        due(54, "fits of nothing", x.fits(0, 0), -6);
        due(54, "fits(4, 0)", x.fits(4, 0), -2);
        due(54, "fits(-1, 0)", x.fits(-1, 0), -2);
        due(54, "fits(0, 3) of nothing: -2 ahead", x.fits(0, 3), -2);
        x.row(0, 0, 0);
        due(54, "fits of an empty row", x.fits(0, 0), 64);
        due(57, "ask of an empty row", x.ask(0, 0), 1);
        due(58, "leaves of an empty row", x.leaves(0, 0), 32);
        due(59, "laws of an empty row", x.laws(0), 15);
        x.row(0, 3, 2);
        x.write(0, 0, 1);
        due(54, "fits: 0 got post 1", x.fits(0, 0), 32);
        due(55, "surely", x.surely(0, 0), 2);
        due(56, "never", x.never(0, 0), 0);
        due(57, "ask: no more to know", x.ask(0, 0), -1);
        due(58, "leaves: as now", x.leaves(0, 0), 32);
        x.write(0, 1, -1);
        due(54, "fits: nobody got post 1", x.fits(0, 0), 32);
        due(55, "surely", x.surely(0, 0), 0);
        due(56, "never", x.never(0, 0), 2);
        x.write(0, 1, 2);
        due(54, "fits: 2 got post 1", x.fits(0, 0), 0);
        due(55, "surely of none", x.surely(0, 0), -1);
        due(56, "never of none", x.never(0, 0), -1);
        due(57, "ask of none", x.ask(0, 0), -1);
        due(58, "leaves of none", x.leaves(0, 0), 0);
        due(54, "fits of the set of 1: he has skill 0 or 1, or not", x.fits(0, 1), 0);
        long[][] bad = {{3, 0}, {-1, 0}, {0, 3}, {0, -2}, {4294967296L, 0}, {0, 4294967296L}};
        for (long[] b : bad) {
            x.write(0, 0, b[0]);
            x.write(0, 1, b[1]);
            due(54, "fits of " + Arrays.toString(b), x.fits(0, 0), -2);
            due(55, "surely of " + Arrays.toString(b), x.surely(0, 0), -2);
            due(56, "never of " + Arrays.toString(b), x.never(0, 0), -2);
            due(57, "ask of " + Arrays.toString(b), x.ask(0, 0), -2);
            due(58, "leaves of " + Arrays.toString(b), x.leaves(0, 0), -2);
            due(59, "laws of " + Arrays.toString(b), x.laws(0), -2);
        }
        x.row(1, 1, 3);
        due(54, "fits of three numbers", x.fits(1, 1), -2);
        due(59, "laws of three numbers", x.laws(1), -2);
        x.row(1, 1, 4);
        x.write(1, 1, 1);
        x.write(1, 2, 2);
        x.write(1, 3, -1);
        due(54, "fits of two pairs", x.fits(1, 1), 32);
        due(55, "surely of two pairs", x.surely(1, 1), 1);
        due(59, "laws of two pairs", x.laws(1), 15);
        x.write(1, 2, 0);
        due(54, "fits of pairs that differ", x.fits(1, 1), 0);
        for (int slot : new int[] {4, -1}) {
            due(55, "surely(" + slot + ", 0)", x.surely(slot, 0), -2);
            due(56, "never(" + slot + ", 0)", x.never(slot, 0), -2);
            due(57, "ask(" + slot + ", 0)", x.ask(slot, 0), -2);
            due(58, "leaves(" + slot + ", 0)", x.leaves(slot, 0), -2);
            due(59, "laws(" + slot + ")", x.laws(slot), -2);
        }
        due(55, "surely of nothing", x.surely(2, 0), -6);
        due(56, "never of nothing", x.never(2, 0), -6);
        due(57, "ask of nothing", x.ask(2, 0), -6);
        due(58, "leaves of nothing", x.leaves(2, 0), -6);
        due(59, "laws of nothing", x.laws(2), -6);
        due(55, "surely(2, 3)", x.surely(2, 3), -2);
        due(56, "never(2, 3)", x.never(2, 3), -2);
        due(57, "ask(2, 3)", x.ask(2, 3), -2);
        due(58, "leaves(2, 3)", x.leaves(2, 3), -2);
        due(6, "skills stay", x.skills(0), 0);
        EnemyLetters y = land("land years 2 law 0 odds 0;person 0;person;hates 1 0 1;post at 1 0;");
        y.row(3, 2, 2);
        due(59, "laws of a hate of 1", y.laws(3), 1);
        y.write(3, 1, -1);
        due(59, "laws without it", y.laws(3), 14);
    }

    private static void shares() {
        // 1 hates 0 by 6, 2 by 3, 3 not; post 0 needs one, post 1 two
        EnemyLetters x = land("land years 1 law 0 odds 0;person 0 1;person;person;person;hates 1 0 6;hates 2 0 3;"
            + "post at 0 0;post at 0 0 1;post at 3;post at 0;");
        due(60, "worth(0, 0, 15)", x.worth(0, 0, 15), 6);
        due(60, "worth(0, 0, 12)", x.worth(0, 0, 12), 3);
        due(60, "worth(0, 0, 9), he himself", x.worth(0, 0, 9), 0);
        due(60, "worth(0, 1, 6)", x.worth(0, 1, 6), 9);
        due(60, "worth(0, 1, 2)", x.worth(0, 1, 2), 0);
        due(60, "worth(0, 2, 15), of no year", x.worth(0, 2, 15), 0);
        due(60, "worth(1, 0, 15), he can't", x.worth(1, 0, 15), 0);
        due(60, "worth(1, 3, 0), it needs none", x.worth(1, 3, 0), 0);
        due(60, "worth(0, 0, 16)", x.worth(0, 0, 16), -2);
        due(60, "worth(0, 0, -1)", x.worth(0, 0, -1), -2);
        due(60, "worth(4, 0, 0)", x.worth(4, 0, 0), -2);
        due(60, "worth(0, 4, 0)", x.worth(0, 4, 0), -2);
        due(61, "share of 1 above", x.share(0, 0, 1, 0), 9);
        due(61, "share of 1 below", x.share(0, 0, 1, 1), 2);
        due(61, "share of 2 above", x.share(0, 0, 2, 0), 3);
        due(61, "share of 2 below", x.share(0, 0, 2, 1), 2);
        due(61, "share of 3 above", x.share(0, 0, 3, 0), 0);
        due(61, "share of 3 below", x.share(0, 0, 3, 1), 1);
        due(61, "share of two letters above", x.share(0, 1, 2, 0), 9);
        due(61, "share of two letters below", x.share(0, 1, 2, 1), 2);
        due(61, "share(0, 0, 1, 2)", x.share(0, 0, 1, 2), -2);
        due(61, "share(0, 0, 1, -1)", x.share(0, 0, 1, -1), -2);
        due(61, "share(0, 0, 0, 0)", x.share(0, 0, 0, 0), -2);
        due(61, "share(0, 0, 4, 0)", x.share(0, 0, 4, 0), -2);
        due(61, "share(0, 4, 1, 0)", x.share(0, 4, 1, 0), -2);
        // three who hate by 6, 3, 1: 1 alone adds 1 in a third of orders, and so on
        EnemyLetters y = land("land years 1 law 0 odds 0;person 0;person;person;person;hates 1 0 6;hates 2 0 3;"
            + "hates 3 0 1;post at 0 0;");
        due(61, "share of the third above", y.share(0, 0, 3, 0), 1);
        due(61, "share of the third below", y.share(0, 0, 3, 1), 3);
        due(61, "share of the second above", y.share(0, 0, 2, 0), 4);
        due(61, "share of the second below", y.share(0, 0, 2, 1), 3);
        due(61, "share of the first above", y.share(0, 0, 1, 0), 13);
    }

    private static void game() {
        // each of 0, 1 gets the one post by a wrong, 0 if both do
        EnemyLetters x = land("land years 1 law 0 odds 0;person 0;person 0;person;post at 0 0;");
        due(63, "neither", x.wins(0, 1, 0, 0), 0);
        due(63, "he", x.wins(0, 1, 1, 0), 5);
        due(63, "the other one", x.wins(0, 1, 0, 1), 0);
        due(63, "both, the first", x.wins(0, 1, 1, 1), 5);
        due(63, "both, the other one", x.wins(1, 0, 1, 1), -4);
        due(63, "the last, to nobody", x.wins(2, 0, 1, 0), -4);
        due(63, "wins(0, 0, 0, 0)", x.wins(0, 0, 0, 0), -1000);
        due(63, "wins(0, 3, 0, 0)", x.wins(0, 3, 0, 0), -1000);
        due(63, "wins(0, 1, 2, 0)", x.wins(0, 1, 2, 0), -1000);
        due(63, "wins(0, 1, 0, -1)", x.wins(0, 1, 0, -1), -1000);
        due(62, "rests: the first does", x.rests(0, 1), 2);
        due(62, "rests told the other way", x.rests(1, 0), 4);
        due(62, "rests with the last", x.rests(0, 2), 2);
        due(62, "rests(0, 0)", x.rests(0, 0), -2);
        due(62, "rests(0, 3)", x.rests(0, 3), -2);
        EnemyLetters y = land("land years 1 law 0 odds 0;person 0;person 0;person;post at 0 0;post at 0 0;");
        due(62, "rests: both do", y.rests(0, 1), 8);
        EnemyLetters z = land("land years 1 law 0 odds 0;person;person;person;post at 0;post at 0;");
        due(62, "rests: neither does", z.rests(0, 1), 1);
        due(63, "9", z.wins(1, 0, 0, 1), 9);
        // 0 is above by a wrong alone, but a wrong of 1 takes it: none at rest
        EnemyLetters w = land("land years 1 law 0 odds 0;person 0;person 0;person;hates 2 0 5;hates 2 1 4;post at 0 0;");
        due(62, "rests: none", w.rests(0, 1), 0);
    }

    private static void chances() {
        EnemyLetters x = land(THAW);
        due(64, "chance(1, 0, 0)", x.chance(1, 0, 0), 1);
        due(64, "chance(1, 0, 1)", x.chance(1, 0, 1), 1);
        due(64, "chance(0, 1, 0): no thaw", x.chance(0, 1, 0), 7);
        due(64, "chance(0, 1, 1)", x.chance(0, 1, 1), 10);
        due(64, "chance(2, 1, 0)", x.chance(2, 1, 0), 0);
        due(64, "chance(2, 1, 1)", x.chance(2, 1, 1), 1);
        due(64, "chance(0, 1, 2)", x.chance(0, 1, 2), -2);
        due(64, "chance(3, 1, 0)", x.chance(3, 1, 0), -2);
        due(64, "chance(0, 2, 0)", x.chance(0, 2, 0), -2);
        due(65, "mean(0)", x.mean(0), 17);
        due(65, "mean(1)", x.mean(1), 10);
        due(65, "mean(2)", x.mean(2), -2);
        due(65, "mean(-1)", x.mean(-1), -2);
        String nine = " law 0 odds 1;person 0;person;hates 1 0 8;post at 8 0;";
        EnemyLetters y = land("land years 9" + nine);
        due(64, "nine years above: not all thaw", y.chance(0, 0, 0), 99999999L);
        due(64, "nine years below", y.chance(0, 0, 1), 100000000L);
        due(65, "nine years' mean above", y.mean(0), 99999999L);
        EnemyLetters z = land("land years 10" + nine);
        due(64, "ten years", z.chance(0, 0, 0), -3);
        due(64, "ten years, none such", z.chance(2, 0, 0), -2);
        due(65, "ten years' mean", z.mean(0), -3);
        due(65, "ten years' mean, none such", z.mean(2), -2);
        // law 1 first, then the thaw: of -2 nothing is left; of -1 neither, and it is no like
        EnemyLetters w = land("land years 2 law 1 odds 10;person 0;person;person 0;hates 1 0 2;hates 1 2 3;post at 1 0;");
        due(64, "a sure thaw", w.chance(0, 0, 0), 0);
        due(64, "a sure thaw of 3", w.chance(2, 0, 0), 1);
        due(36, "no thaw by itself", w.gets(0), 2);
        due(65, "a sure thaw's mean", w.mean(0), 1);
        due(64, "odds 0", land("land years 2 law 0 odds 0;person 0;person;hates 1 0 1;post at 1 0;").chance(0, 0, 0), 1);
        due(64, "odds 10",
            land("land years 2 law 0 odds 10;person 0;person;hates 1 0 1;post at 1 0;").chance(0, 0, 0), 0);
        due(65, "mean without posts above", land("land years 3 law 0 odds 5;").mean(0), 0);
        due(65, "mean without posts below", land("land years 3 law 0 odds 5;").mean(1), 1);
    }

    private static void acts() {
        EnemyLetters x = land(HALVES);
        due(66, "wrongs(0, 1, 40, 0)", x.wrongs(0, 1, 40, 0), -47);
        due(66, "wrongs(0, 1, 30, 0): -60 at least", x.wrongs(0, 1, 30, 0), -60);
        due(66, "feels(1, 0, 1) then", x.feels(1, 0, 1), -30);
        due(66, "wrongs(1, 0, 1, 1)", x.wrongs(1, 0, 1, 1), -1);
        due(67, "amends(0, 1, 1)", x.amends(0, 1, 1), 0);
        due(67, "amends(1, 2, 0), to one who does not hate", x.amends(2, 1, 0), 60);
        due(66, "a wrong behind amends", x.wrongs(0, 1, 2, 1), -2);
        due(73, "acts", x.count(7), 6);
        due(67, "feels(1, 0, 2)", x.feels(1, 0, 2), -1);
        due(66, "an act in an earlier year", x.wrongs(0, 2, 1, 0), -10);
        int[][] bad = {{0, 0, 1, 0}, {4, 0, 1, 0}, {0, 4, 1, 0}, {-1, 0, 1, 0}, {0, 1, 0, 0}, {0, 1, 41, 0}, {0, 1, 1, 3},
            {0, 1, 1, -1}, {0, 1, -1, 0}};
        for (int[] b : bad) {
            due(66, "wrongs" + Arrays.toString(b), x.wrongs(b[0], b[1], b[2], b[3]), -1000);
            if (b[2] == 1) {
                due(67, "amends" + Arrays.toString(b), x.amends(b[0], b[1], b[3]), -1000);
            }
        }
        due(66, "acts after wrong ones", x.count(7), 7);
        due(68, "undo()", x.undo(), 6);
        due(68, "feels(2, 0, 0) behind undo()", x.feels(2, 0, 0), -9);
        due(68, "undo()", x.undo(), 5);
        due(68, "feels(1, 0, 1) behind undo()", x.feels(1, 0, 1), 0);
        due(69, "anew()", x.anew(), 5);
        due(69, "feels(1, 0, 1) behind anew()", x.feels(1, 0, 1), -3);
        due(68, "undo() of none", x.undo(), -5);
        due(69, "anew() of none", x.anew(), 0);
        for (int i = 0; i < 30; i++) {
            due(66, "act " + i, i % 2 == 0 ? x.wrongs(2, 3, 1, 2) : x.amends(2, 3, 2), i % 2 == 0 ? -1 : 0);
        }
        due(66, "wrongs beyond 30", x.wrongs(0, 1, 1, 0), -5);
        due(67, "amends beyond 30", x.amends(0, 1, 0), -5);
        due(66, "wrongs beyond 30, none such", x.wrongs(0, 0, 1, 0), -1000);
        due(67, "amends beyond 30, none such", x.amends(0, 1, 3), -1000);
        due(68, "undo() of 30", x.undo(), 29);
        due(66, "wrongs, the 30th", x.wrongs(0, 1, 1, 0), -8);
        due(69, "anew() of 30", x.anew(), 30);
        // told wrongs come first, though an act was of the same year
        EnemyLetters y = land("land years 1 law 0 odds 0;person;person;wrong 0 1 5 at 0;");
        due(67, "amends behind told wrongs", y.amends(0, 1, 0), 0);
    }

    private static void draws() {
        // of seed 0: 12345, 1406932606, 654583775, 1449466924: draws 0, 8 (of 21468), 8 (9988), 7 (22117)
        String five = "land years 5 law 0 odds ";
        String rest = ";person 0;person;hates 1 0 1;post at 1 0;";
        due(70, "drawn(0, 0), odds 8", land(five + "8" + rest).drawn(0, 0), 9);
        due(70, "drawn(0, 0), odds 7", land(five + "7" + rest).drawn(0, 0), 1);
        due(70, "drawn(0, 0), odds 9", land(five + "9" + rest).drawn(0, 0), 15);
        due(70, "drawn(0, 0), odds 1", land(five + "1" + rest).drawn(0, 0), 1);
        due(70, "drawn(0, 0), odds 0", land(five + "0" + rest).drawn(0, 0), 0);
        due(70, "drawn(0, 0), odds 10", land(five + "10" + rest).drawn(0, 0), 15);
        due(70, "drawn(0, 0), one year", land("land years 1 law 0 odds 10;").drawn(0, 0), 0);
        due(70, "drawn(0, 1), thawed", land(five + "1" + rest).drawn(0, 1), 0);
        due(70, "drawn(0, 1), not", land(five + "0" + rest).drawn(0, 1), 1);
        EnemyLetters x = land(five + "5" + rest);
        due(70, "drawn(-1, 0)", x.drawn(-1, 0), -2);
        due(70, "drawn(2000000001, 0)", x.drawn(2000000001, 0), -2);
        due(70, "drawn(2000000000, 0)", x.drawn(2000000000, 0) >= 0 ? 1 : 0, 1);
        due(70, "drawn(0, 2)", x.drawn(0, 2), -2);
        due(70, "drawn(0, -1)", x.drawn(0, -1), -2);
        // first draws of seeds 0, 1, 2: 0 (of 12345), 8 (of 1103527590), 8 (of 59559187)
        due(71, "luck(0, 1, 0, 0)", x.luck(0, 1, 0, 0), 0);
        due(71, "luck(0, 3, 0, 0)", x.luck(0, 3, 0, 0), 2);
        due(71, "luck(1, 1, 0, 0)", x.luck(1, 1, 0, 0), 1);
        due(71, "luck(0, 20, 1, 0)", x.luck(0, 20, 1, 0), 0);
        due(71, "luck(2000000000, 20, ..)", x.luck(2000000000, 20, 1, 0), 0);
        due(71, "luck(0, 0, 0, 0)", x.luck(0, 0, 0, 0), -2);
        due(71, "luck(0, 21, 0, 0)", x.luck(0, 21, 0, 0), -2);
        due(71, "luck(-1, 1, 0, 0)", x.luck(-1, 1, 0, 0), -2);
        due(71, "luck(2000000001, 1, 0, 0)", x.luck(2000000001, 1, 0, 0), -2);
        due(71, "luck(0, 1, 2, 0)", x.luck(0, 1, 2, 0), -2);
        due(71, "luck(0, 1, 0, 1)", x.luck(0, 1, 0, 1), -2);
    }

    private static void rates() {
        EnemyLetters x = land(HALVES);
        due(72, "rate(0, 2)", x.rate(0, 2), 3);
        due(72, "skills(0) then", x.skills(0), 2);
        due(72, "word(0, 0) then", x.word(0, 0), -1);
        due(72, "rate(0, 64)", x.rate(0, 64), -2);
        due(72, "rate(0, -1)", x.rate(0, -1), -2);
        due(72, "rate(4, 0)", x.rate(4, 0), -2);
        due(72, "rate(0, 63)", x.rate(0, 63), 2);
        x.amends(0, 1, 0);
        due(72, "rate with acts", x.rate(0, 1), -5);
        due(72, "rate with acts, none such", x.rate(0, 64), -2);
        x.undo();
        due(72, "rate without", x.rate(0, 3), 63);
        x.rate(0, 0);
        x.anew();
        due(72, "anew() leaves it", x.skills(0), 0);
        tell(x, HALVES);
        due(72, "another land is as told", x.skills(0), 3);
    }

    private static void counts() {
        EnemyLetters x = land(HALVES);
        int[] want = {3, 2, 5, 4, 6, 3, 4, 0, 18, 0, 0};
        for (int i = 0; i < want.length; i++) {
            due(73, "count(" + i + ")", x.count(i), want[i]);
        }
        due(73, "count(11)", x.count(11), -1);
        due(73, "count(-1)", x.count(-1), -1);
        x.feed(0, 0, 0, 0, 0);
        x.wrongs(0, 1, 1, 0);
        x.row(3, 0, 0);
        x.row(1, 0, 60);
        x.row(1, 0, 61);
        due(73, "bytes", x.count(9), 20);
        due(73, "acts", x.count(7), 1);
        due(73, "slots", x.count(10), 2);
    }

    private static void images() {
        EnemyLetters x = land(HALVES);
        due(75, "back(0) of nothing", x.back(0), -6);
        due(75, "back(3)", x.back(3), -2);
        due(75, "back(-1)", x.back(-1), -2);
        due(74, "image(3)", x.image(3), -2);
        due(74, "image(-1)", x.image(-1), -2);
        x.rate(2, 9);
        x.wrongs(0, 1, 4, 0);
        x.row(0, 0, 2);
        due(74, "image(2)", x.image(2), 0);
        x.wrongs(0, 1, 4, 0);
        tell(x, THAW);
        x.feed(0, 0, 0, 0, 0);
        due(74, "image(0)", x.image(0), 0);
        due(75, "back(2)", x.back(2), 0);
        due(75, "persons", x.count(3), 4);
        due(75, "acts", x.count(7), 1);
        due(75, "skills(2)", x.skills(2), 9);
        due(75, "feels(1, 0, 0)", x.feels(1, 0, 0), -11);
        due(75, "the tape stays", x.count(9), 20);
        due(75, "slots stay", x.count(10), 1);
        x.anew();
        x.rate(2, 0);
        due(75, "back(2) again, as it was kept", x.back(2), 0);
        due(75, "acts again", x.count(7), 1);
        due(75, "undo() behind it", x.undo(), 0);
        due(75, "feels(1, 0, 0)", x.feels(1, 0, 0), -7);
        due(75, "back(0)", x.back(0), 0);
        due(75, "given()", x.given(), 3);
        due(75, "back(1) of nothing", x.back(1), -6);
        tell(x, "");
        due(74, "image(1) without a land", x.image(1), 0);
        x.back(0);
        due(75, "back(1) to none", x.back(1), 0);
        due(75, "given() of none", x.given(), -2);
    }

    private static void slots() {
        EnemyLetters x = land("land years 1 law 0 odds 0;person;person;post at 0;post at 0;");
        due(76, "row(4, 0, 1)", x.row(4, 0, 1), -2);
        due(76, "row(-1, 0, 1)", x.row(-1, 0, 1), -2);
        due(76, "row(0, 4, 1)", x.row(0, 4, 1), -2);
        due(76, "row(0, -1, 1)", x.row(0, -1, 1), -2);
        due(76, "row(0, 0, 61)", x.row(0, 0, 61), -2);
        due(76, "row(0, 0, -1)", x.row(0, 0, -1), -3);
        due(76, "row(4, 0, -1)", x.row(4, 0, -1), -2);
        due(76, "no slot has a row", x.count(10), 0);
        due(77, "write(0, 0, 0) of nothing", x.write(0, 0, 0), -6);
        due(77, "write(4, 0, 0)", x.write(4, 0, 0), -2);
        due(77, "write(-1, 0, 0)", x.write(-1, 0, 0), -2);
        due(76, "row(0, 0, 60)", x.row(0, 0, 60), 0);
        due(77, "write(0, 59, 1)", x.write(0, 59, 1), 0);
        due(77, "write(0, 60, 1)", x.write(0, 60, 1), -7);
        due(77, "write(0, -1, 1)", x.write(0, -1, 1), -7);
        long[] full = {1L << 8, 1L << 16, 1L << 32};
        for (int w = 0; w < 4; w++) {
            due(76, "row(1, " + w + ", 2)", x.row(1, w, 2), 0);
            due(76, "all 0", x.fits(1, 0), 64);
            x.write(1, 0, 2);
            due(77, "no such post", x.fits(1, 0), -2);
            due(76, "row(1, " + w + ", -1)", x.row(1, w, -1), -3);
            due(76, "the slot stays", x.fits(1, 0), -2);
            if (w < 3) {
                x.write(1, 0, full[w] + 1);
                x.write(1, 1, full[w] - 1);
                due(77, "cut to 1 and -1", x.fits(1, 0), 0);
                x.write(1, 1, full[w] + 1);
                due(77, "cut to 1 and 1", x.fits(1, 0), 64);
            }
            x.write(1, 0, full[0] * full[1] + 1);
            due(77, "of width " + w, x.fits(1, 0), w == 3 ? -2 : w == 2 ? -2 : 64);
        }
        pastes(x);
    }

    private static void pastes(EnemyLetters x) {
        x.row(0, 0, 4);
        x.row(1, 0, 3);
        x.row(2, 1, 4);
        due(78, "paste(4, ..)", x.paste(4, 0, 0, 0, 0), -2);
        due(78, "paste to -1", x.paste(0, 0, -1, 0, 0), -2);
        due(78, "paste of nothing to none such", x.paste(3, 0, 4, 0, 0), -2);
        due(78, "paste of nothing", x.paste(3, 0, 0, 0, 0), -6);
        due(78, "paste to nothing", x.paste(0, 0, 3, 0, 0), -6);
        due(78, "paste of another width", x.paste(0, 0, 2, 0, 1), -8);
        due(78, "paste of another width beyond", x.paste(0, 9, 2, 0, 1), -8);
        due(78, "paste beyond its row", x.paste(0, 1, 1, 0, 4), -7);
        due(78, "paste beyond the other row", x.paste(0, 0, 1, 1, 3), -7);
        due(78, "paste from -1", x.paste(0, -1, 1, 0, 1), -7);
        due(78, "paste to place -1", x.paste(0, 0, 1, -1, 1), -7);
        due(78, "paste of -1", x.paste(0, 0, 1, 0, -1), -7);
        due(78, "paste of far too many", x.paste(0, 1, 1, 1, Integer.MAX_VALUE), -7);
        due(78, "paste of none at the end", x.paste(0, 4, 1, 3, 0), 0);
        // 0 0 0 1 is: 0 got post 0, 1 got post 0; moved by two, as they were
        x.write(0, 0, 1);
        x.write(0, 1, 1);
        due(78, "paste within a row", x.paste(0, 0, 0, 1, 3), 0);
        due(78, "1 1 1 0: it is so for no set", x.fits(0, 0), 0);
        x.write(0, 3, 1);
        due(78, "1 1 1 1: it is so for all", x.fits(0, 0), 64);
        x.row(1, 0, 2);
        due(78, "paste to another row", x.paste(0, 1, 1, 0, 2), 0);
        x.write(1, 1, -1);
        due(78, "1 -1 there: none", x.fits(1, 0), 0);
        due(78, "the first row stays", x.fits(0, 0), 64);
    }

    private static void nothingWithoutLand() {
        EnemyLetters x = new EnemyLetters();
        int[] answers = {x.skills(0), x.needs(0), x.year(0), x.enemies(0, 0), x.friends(0, 0), x.hate(0, 0), x.worst(0, 0),
            x.mild(0, 0), x.bitter(0), x.praise(0), x.dearest(0, 0), x.foe(0, 0), x.steady(0, 1), x.cold(0), x.harms(0),
            x.hurts(0), x.all(0), x.top(0), x.next(0), x.first(), x.sours(0, 1), x.years(0, 1), x.hated(0), x.porter(0),
            x.mutual(0), x.rings(0), x.word(0, 0), x.pens(0, 0), x.gets(0), x.has(0), x.may(0), x.edge(0), x.writes(0),
            x.given(), x.idle(), x.hopes(0), x.lacks(0, 0), x.least(0, 1, 0), x.target(0, 0), x.learns(0, 0), x.best(),
            x.put(0), x.ways(), x.by(0), x.law(), x.spare(), x.fits(0, 0), x.surely(0, 0), x.never(0, 0), x.ask(0, 0),
            x.leaves(0, 0), x.laws(0), x.worth(0, 0, 0), x.share(0, 0, 1, 0), x.rests(0, 1), (int) x.chance(0, 0, 0),
            (int) x.mean(0), x.undo(), x.anew(), x.drawn(0, 0), x.luck(0, 1, 0, 0), x.rate(0, 0)};
        for (int i = 0; i < answers.length; i++) {
            due(1, "call " + i + " without a land", answers[i], -2);
        }
        due(9, "feels without a land", x.feels(0, 1, 0), -1000);
        due(29, "lowest without a land", x.lowest(0, 1), -1000);
        due(63, "wins without a land", x.wins(0, 1, 0, 0), -1000);
        due(66, "wrongs without a land", x.wrongs(0, 1, 1, 0), -1000);
        due(67, "amends without a land", x.amends(0, 1, 0), -1000);
    }
}
