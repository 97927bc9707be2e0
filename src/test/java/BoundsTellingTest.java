/** Promises 1 to 8 and term I: each sentence that names a bound, by answers that were made by hand. */
public final class BoundsTellingTest {
    /** 26 bytes: what comes behind it is at place 26 and on. */
    private static final String OPEN = "land years 2 law 3 odds 9;";
    /** 40 bytes. */
    private static final String TWO = OPEN + "person;person;";

    public static void main(String[] args) {
        promise1NewObject();
        promise2Feed();
        promise2FeedRefused();
        promise2EachByteHasItsPlace();
        promise3End();
        promise4Land();
        promise4NothingOfTheLandAhead();
        promise4Fault();
        promise5What();
        promise5Opening();
        promise5Skills();
        promise5Bonds();
        promise5Wrongs();
        promise5Posts();
        promise5Tokens();
        promise5FirstPlace();
        promise5TooMany();
        promise6Skills();
        promise7Needs();
        promise8Year();
        Due.finish(1, 8);
    }

    private static void promise1NewObject() {
        EnemyLetters x = new EnemyLetters();
        for (int i = 0; i <= 10; i++) {
            Due.due(1, "count(" + i + ") of a new object", x.count(i), 0);
        }
        for (int i = 0; i < 4; i++) {
            Due.due(1, "write to slot " + i + ", that has nothing", x.write(i, 0, 1), -6);
            Due.due(1, "laws(" + i + ") without a land", x.laws(i), -2);
        }
        for (int k = 0; k < 3; k++) {
            Due.due(1, "back(" + k + "), that has nothing", x.back(k), -6);
        }
        Due.due(1, "end(0) of nothing", x.end(0), 0);
        Due.due(1, "end(1) of nothing", x.end(1), -1);
        Due.due(1, "undo() without a land", x.undo(), -2);
        Due.due(1, "anew() without a land", x.anew(), -2);
        Due.due(1, "rate(0, 0) without a land", x.rate(0, 0), -2);
        Due.due(1, "land() of nothing", x.land(), 0);
        EnemyLetters other = Due.busy();
        Due.due(1, "another object's land is its own", new EnemyLetters().count(8) + other.count(8), 12);
    }

    private static void promise2Feed() {
        EnemyLetters x = new EnemyLetters();
        for (int round = 0; round < 2; round++) {
            for (int i = 1; i <= 40; i++) {
                Due.due(2, "feed " + i + " of round " + round, x.feed(0x20202020, 0x20202020, 0x20202020, 0x20202020, 0x20202020),
                    20 * i);
            }
            Due.due(2, "feed, it would have 820", x.feed(0, 0, 0, 0, 0), -1);
            Due.due(2, "none came", x.count(9), 800);
            Due.due(2, "800 blanks are no line, and nothing else is there", x.land(), 0);
        }
        Due.feed(x, " ".repeat(781));
        Due.due(2, "feed, it would have 801", x.feed(0, 0, 0, 0, 0), -1);
        Due.due(2, "none came", x.count(9), 781);
        x.end(780);
        Due.due(2, "feed, it has 800 then", x.feed(0x20202020, 0x20202020, 0x20202020, 0x20202020, 0x2020203f), 800);
        Due.due(2, "the 800th byte is there", x.land(), -4);
        Due.due(2, "at its place", x.fault(1), 799);
        String longest = OPEN + " ".repeat(767) + "person;";
        Due.due(2, "a land of 800 bytes", longest.length(), 800);
        Due.due(2, "is read to its end", Due.tell(x, longest), 2);
    }

    private static void promise2FeedRefused() {
        EnemyLetters x = Due.busy();
        EnemyLetters y = Due.busy();
        Due.feed(x, " ".repeat(750));
        Due.feed(y, " ".repeat(750));
        Due.due(2, "35 and 750", x.count(9), 785);
        Due.due(2, "feed of a tape of 785", x.feed(0x3f3f3f3f, 0x3f3f3f3f, 0x3f3f3f3f, 0x3f3f3f3f, 0x3f3f3f3f), -1);
        Due.due(2, "all is as it was", Due.same(Due.all(x), Due.all(y)), 1);
    }

    private static void promise2EachByteHasItsPlace() {
        for (int place = 0; place < 20; place++) {
            for (int sign : new int[] {'?', 0xe9, 0x80, 0xff, 0}) {
                int[] n = {0x20202020, 0x20202020, 0x20202020, 0x20202020, 0x20202020};
                int shift = 24 - 8 * (place % 4);
                n[place / 4] = n[place / 4] & ~(255 << shift) | sign << shift;
                EnemyLetters x = new EnemyLetters();
                x.feed(n[0], n[1], n[2], n[3], n[4]);
                Due.due(2, "byte " + sign + " at " + place + " is no token", x.land(), -4);
                Due.due(2, "byte " + sign + " has the place " + place, x.fault(1), place);
            }
        }
    }

    private static void promise3End() {
        EnemyLetters x = new EnemyLetters();
        x.feed(0x20202020, 0x20202020, 0x20202020, 0x20202020, 0x20202020);
        x.feed(0x3f202020, 0x20202020, 0x20202020, 0x20202020, 0x2020203f);
        Due.due(3, "end(41) of 40", x.end(41), -1);
        Due.due(3, "end(-1)", x.end(-1), -1);
        Due.due(3, "end, far above", x.end(Integer.MAX_VALUE), -1);
        Due.due(3, "end, far below", x.end(Integer.MIN_VALUE), -1);
        Due.due(3, "nothing happened", x.count(9), 40);
        Due.due(3, "end(40) of 40", x.end(40), 40);
        Due.due(3, "end(39): the last byte goes", x.end(39), 39);
        Due.due(3, "end(40): it has not so many any more", x.end(40), -1);
        Due.due(3, "end(21)", x.end(21), 21);
        Due.due(3, "the sign at 20 stays: a fault", x.land(), -4);
        Due.due(3, "its place", x.fault(1), 20);
        x.feed(0x20202020, 0x20202020, 0x20202020, 0x20202020, 0x20202020);
        x.feed(0x3f202020, 0x20202020, 0x20202020, 0x20202020, 0x2020203f);
        Due.due(3, "end(20): the sign goes", x.end(20), 20);
        Due.due(3, "blanks alone", x.land(), 0);
        x.feed(0x20202020, 0x20202020, 0x20202020, 0x20202020, 0x20202020);
        x.end(3);
        Due.due(3, "what comes then is behind the cut", x.feed(0x3f202020, 0, 0, 0, 0), 23);
        x.land();
        Due.due(3, "at its place", x.fault(1), 3);
        Due.due(3, "end(0) of none", x.end(0), 0);
        x.feed(0x3f3f3f3f, 0, 0, 0, 0);
        Due.due(3, "end(0)", x.end(0), 0);
        Due.due(3, "none is there", x.land(), 0);
        Due.refused(3, "end(36) of 35", y -> y.end(36), -1);
        Due.refused(3, "end(-1) of 35", y -> y.end(-1), -1);
        Due.refused(3, "end(-2147483648) of 35", y -> y.end(Integer.MIN_VALUE), -1);
        Due.refused(3, "end(2147483647) of 35", y -> y.end(Integer.MAX_VALUE), -1);
    }

    private static void promise4Land() {
        EnemyLetters x = new EnemyLetters();
        Due.due(4, "the least land", Due.tell(x, "land years 1 law 0 odds 0;"), 1);
        Due.due(4, "given() of the least", x.given(), 0);
        String most = "land years 12 law 3 odds 10;" + "person;".repeat(5) + "person 0 1 2 3 4 5;" + "likes 0 5 60;".repeat(20)
            + "wrong 5 0 40 at 11;".repeat(8) + "post at 11 0 1 2 3 4 5;".repeat(5);
        Due.due(4, "the most lines", Due.tell(x, most), 40);
        Due.due(4, "lines of it", x.count(8), 40);
        Due.due(4, "the tape is empty then", x.count(9), 0);
        x.wrongs(0, 1, 1, 11);
        Due.due(4, "told again", Due.tell(x, most), 40);
        Due.due(4, "nothing is done", x.count(7), 0);
        Due.due(4, "nothing is done to 1", x.feels(1, 0, 11), 0);
        Due.due(4, "undo() of nothing", x.undo(), -5);
        Due.due(4, "land() of the empty tape", x.land(), 0);
        for (int i = 0; i <= 8; i++) {
            Due.due(4, "there is none then: count(" + i + ")", x.count(i), 0);
        }
        Due.due(4, "there is none then: given()", x.given(), -2);
        Due.due(4, "there is none then: skills(0)", x.skills(0), -2);
        Due.due(4, "there is none then: bitter(0)", x.bitter(0), -2);
        Due.due(4, "there is none then: undo()", x.undo(), -2);
        Due.due(4, "land() of blanks", Due.tell(x, " \n\n  "), 0);
        EnemyLetters y = Due.busy();
        y.end(0);
        Due.due(4, "rows stay behind land()", y.land() + y.count(10), 3);
        Due.due(4, "images stay behind land()", y.back(0), 0);
        Due.due(4, "the image's act", y.count(7), 1);
    }

    private static void promise4NothingOfTheLandAhead() {
        EnemyLetters x = Due.land("land years 3 law 0 odds 0;person 0 1 2 3 4 5;person 5;person;hates 0 1 5;likes 1 0 6;"
            + "wrong 1 2 7 at 0;post at 0 0 1;post at 2 5;");
        Due.due(4, "another land", Due.tell(x, "land years 2 law 0 odds 0;person;person;person;post at 1;"), 5);
        for (int p = 0; p < 3; p++) {
            Due.due(4, "skills(" + p + ") are as told now", x.skills(p), 0);
            Due.due(4, "feels(" + p + ", ..) is as told now", x.feels(p, (p + 1) % 3, 1), 0);
            Due.due(4, "feels(" + p + ", ..) is as told now", x.feels(p, (p + 2) % 3, 1), 0);
            Due.due(4, "harms(" + p + ") is as told now", x.harms(p), 0);
        }
        Due.due(4, "needs(0) is as told now", x.needs(0), 0);
        Due.due(4, "post 1 is gone", x.needs(1), -2);
        Due.due(4, "year 2 is gone", x.bitter(2), -2);
        Due.due(4, "no wrong to spare", x.count(5), 0);
    }

    private static void promise4Fault() {
        EnemyLetters x = Due.busy();
        EnemyLetters y = Due.busy();
        Due.feed(x, "person ?");
        Due.due(4, "a fault", x.land(), -4);
        Due.due(4, "the tape is empty behind it, as the shared runs have it", x.count(9), 0);
        Due.due(4, "the fault", x.fault(0), 1);
        Due.due(4, "its place", x.fault(1), 42);
        Due.feed(x, "land ?");
        x.land();
        Due.feed(x, "land years 3 law 0 odds 1;person 2;");
        Due.due(4, "all stays: the land, acts, images, rows", Due.same(Due.all(x), Due.all(y)), 1);
        EnemyLetters none = new EnemyLetters();
        Due.due(4, "a fault where there is no land", Due.tell(none, TWO + "post at 0;person"), -4);
        for (int i = 0; i <= 8; i++) {
            Due.due(4, "there is none still: count(" + i + ")", none.count(i), 0);
        }
        Due.due(4, "a good land behind a fault", Due.tell(none, OPEN + "person;"), 2);
        Due.due(4, "has nothing of the faulty one", none.count(6) + none.count(3), 1);
    }

    private static void promise5What() {
        EnemyLetters x = new EnemyLetters();
        int[] others = {-1, 2, 3, Integer.MIN_VALUE, Integer.MAX_VALUE, 256, 65536};
        Due.due(5, "fault(0) ahead of any", x.fault(0), 0);
        Due.due(5, "fault(1) ahead of any", x.fault(1), -1);
        for (int what : others) {
            Due.due(5, "fault(" + what + ") ahead of any", x.fault(what), -1);
        }
        Due.tell(x, "land years 0");
        Due.due(5, "fault(0) of one", x.fault(0), 2);
        Due.due(5, "fault(1) of one", x.fault(1), 11);
        for (int what : others) {
            Due.due(5, "fault(" + what + ") of one", x.fault(what), -1);
        }
        Due.tell(x, "?");
        Due.due(5, "fault(0) of the latest", x.fault(0), 1);
        Due.due(5, "fault(1) of the latest, the least place", x.fault(1), 0);
        Due.feed(x, OPEN);
        Due.due(5, "fault(0) ahead of the next land()", x.fault(0), 1);
        x.land();
        Due.due(5, "fault(0) of a good one", x.fault(0), 0);
        Due.due(5, "fault(1) of a good one", x.fault(1), -1);
        for (int what : others) {
            Due.due(5, "fault(" + what + ") of a good one", x.fault(what), -1);
        }
        Due.tell(x, "?");
        x.end(0);
        x.land();
        Due.due(5, "fault(0) of an empty one", x.fault(0), 0);
        Due.due(5, "fault(1) of an empty one", x.fault(1), -1);
        Due.tell(x, " ".repeat(799) + ";");
        Due.due(5, "fault(1), the greatest of a token", x.fault(1), 799);
        Due.tell(x, OPEN + " ".repeat(768) + "person");
        Due.due(5, "fault(1), the end of a full tape", x.fault(1), 800);
    }

    private static void fault(String text, int kind, int place) {
        EnemyLetters x = new EnemyLetters();
        Due.due(5, "land() of " + text, Due.tell(x, text), -4);
        Due.due(5, "fault(0) of " + text, x.fault(0), kind);
        Due.due(5, "fault(1) of " + text, x.fault(1), place);
    }

    private static EnemyLetters fine(String text, int lines) {
        EnemyLetters x = new EnemyLetters();
        Due.due(5, "land() of " + text, Due.tell(x, text), lines);
        Due.due(5, "fault(0) of " + text, x.fault(0), 0);
        return x;
    }

    private static void promise5Opening() {
        Due.due(5, "years 1", fine("land years 1 law 0 odds 0;", 1).count(0), 1);
        Due.due(5, "years 12", fine("land years 12 law 0 odds 0;", 1).count(0), 12);
        fault("land years 0 law 0 odds 0;", 2, 11);
        fault("land years 13 law 0 odds 0;", 2, 11);
        Due.due(5, "law 3", fine("land years 1 law 3 odds 0;", 1).count(1), 3);
        fault("land years 1 law 4 odds 0;", 2, 17);
        Due.due(5, "odds 10", fine("land years 1 law 0 odds 10;", 1).count(2), 10);
        fault("land years 1 law 0 odds 11;", 2, 24);
        for (String wraps : new String[] {"257", "65537", "4294967297", "18446744073709551617",
            "340282366920938463463374607431768211457", "1001", "10001", "2147483649"}) {
            fault("land years " + wraps + " law 0 odds 0;", 2, 11);
            fault("land years 1 law " + wraps + " odds 0;", 2, 17);
            fault("land years 1 law 0 odds " + wraps + ";", 2, 24);
            fault(OPEN + "person " + wraps + ";", 2, 33);
            fault(TWO + "likes " + wraps + " 0 1;", 2, 46);
            fault(TWO + "likes 0 " + wraps + " 1;", 2, 48);
            fault(TWO + "likes 0 1 " + wraps + ";", 2, 50);
            fault(TWO + "wrong 0 1 " + wraps + " at 0;", 2, 50);
            fault(TWO + "wrong 0 1 1 at " + wraps + ";", 2, 55);
            fault(OPEN + "post at " + wraps + ";", 2, 34);
            fault(OPEN + "post at 0 " + wraps + ";", 2, 36);
        }
        Due.due(5, "zeros ahead of a number", fine("land years " + "0".repeat(300) + "12 law 003 odds 010;", 1).count(0), 12);
        fault("land years " + "0".repeat(300) + " law 0 odds 0;", 2, 11);
        fault("land years 1 law 0 odds 0 0;", 1, 26);
        fault("land 1 years", 1, 5);
        fault("land years years", 1, 11);
        fault("land years 1 1", 1, 13);
        fault("land years 1 odds", 1, 13);
        fault("land years 1 law law", 1, 17);
        fault("land years 1 law ;", 1, 17);
        fault("land years 1 law 0 0", 1, 19);
        fault("land years 1 law 0 odds odds", 1, 24);
        fault("land years 1 law 0 odds ;", 1, 24);
    }

    private static void promise5Skills() {
        Due.due(5, "a person of none", fine(OPEN + "person;", 2).skills(0), 0);
        Due.due(5, "a person of 0 and 5", fine(OPEN + "person 5 0;", 2).skills(0), 33);
        Due.due(5, "a person of all", fine(OPEN + "person 5 4 3 2 1 0;", 2).skills(0), 63);
        fault(OPEN + "person 6;", 2, 33);
        fault(OPEN + "person 0 1 2 3 4 6;", 2, 43);
        for (int k = 0; k < 6; k++) {
            fault(OPEN + "person " + k + " " + k + ";", 2, 35);
            fault(OPEN + "person 0 1 2 3 4 5 " + k + ";", 2, 45);
            fault(OPEN + "post at 0 " + k + " " + k + ";", 2, 38);
        }
        fault(OPEN + "person 01;person 1 01;", 2, 45);
        Due.due(5, "a post of none", fine(OPEN + "post at 0;", 2).needs(0), 0);
        Due.due(5, "a post of all", fine(OPEN + "post at 0 0 1 2 3 4 5;", 2).needs(0), 63);
        fault(OPEN + "post at 0 6;", 2, 36);
        fault(OPEN + "post at 0 0 1 2 3 4 5 0;", 2, 48);
    }

    private static void promise5Bonds() {
        for (String bond : new String[] {"likes", "hates"}) {
            int sign = bond.equals("likes") ? 1 : -1;
            Due.due(5, bond + " by 1", fine(TWO + bond + " 0 1 1;", 4).feels(0, 1, 0), sign);
            Due.due(5, bond + " by 60", fine(TWO + bond + " 1 0 60;", 4).feels(1, 0, 0), 60 * sign);
            fault(TWO + bond + " 0 1 0;", 2, 50);
            fault(TWO + bond + " 0 1 61;", 2, 50);
            fault(TWO + bond + " 0 0 1;", 2, 48);
            fault(TWO + bond + " 1 1 1;", 2, 48);
            fault(TWO + bond + " 2 0 1;", 2, 46);
            fault(TWO + bond + " 0 2 1;", 2, 48);
            fault(OPEN + bond + " 0 1 1;person;person;", 2, 32);
            fault(OPEN + "person;" + bond + " 0 1 1;person;", 2, 41);
            fault(TWO + bond + " 0 1;", 1, 49);
            fault(TWO + bond + " 0 1 1 1;", 1, 52);
            fault(TWO + bond + ";", 1, 45);
        }
        EnemyLetters last = fine(TWO + "likes 0 1 5;hates 1 0 7;hates 0 1 9;likes 0 1 3;", 7);
        Due.due(5, "of a pair told again the last is it", last.feels(0, 1, 0), 3);
        Due.due(5, "the other way is another pair", last.feels(1, 0, 0), -7);
        Due.due(5, "lines told again are counted", last.count(4), 4);
        Due.due(5, "not told: 0", fine(TWO, 3).feels(0, 1, 0), 0);
    }

    private static void promise5Wrongs() {
        Due.due(5, "wrong by 1: the first one does it", fine(TWO + "wrong 0 1 1 at 0;", 4).feels(1, 0, 0), -1);
        Due.due(5, "the first one feels nothing", fine(TWO + "wrong 0 1 1 at 0;", 4).feels(0, 1, 0), 0);
        Due.due(5, "wrong by 40", fine(TWO + "wrong 0 1 40 at 0;", 4).feels(1, 0, 0), -40);
        Due.due(5, "wrong at 11", fine(TWO + "wrong 0 1 40 at 11;", 4).feels(1, 0, 1), 0);
        fault(TWO + "wrong 0 1 0 at 0;", 2, 50);
        fault(TWO + "wrong 0 1 41 at 0;", 2, 50);
        fault(TWO + "wrong 0 1 1 at 12;", 2, 55);
        fault(TWO + "wrong 0 0 1 at 0;", 2, 48);
        fault(TWO + "wrong 2 0 1 at 0;", 2, 46);
        fault(TWO + "wrong 0 2 1 at 0;", 2, 48);
        fault(OPEN + "wrong 0 1 1 at 0;person;person;", 2, 32);
        fault(TWO + "wrong 0 1 1;", 1, 51);
        fault(TWO + "wrong 0 1 1 at;", 1, 54);
        fault(TWO + "wrong 0 1 at 0;", 1, 50);
        fault(TWO + "wrong 0 1 1 at 0 0;", 1, 57);
    }

    private static void promise5Posts() {
        Due.due(5, "post at 0", fine(OPEN + "post at 0;", 2).year(0), 0);
        Due.due(5, "post at 11", fine(OPEN + "post at 11;", 2).year(0), 11);
        fault(OPEN + "post at 12;", 2, 34);
        fault(OPEN + "post;", 1, 30);
        fault(OPEN + "post at;", 1, 33);
        fault(OPEN + "post 0;", 1, 31);
        fault(OPEN + "post at 0 at;", 1, 36);
    }

    private static void promise5Tokens() {
        fine("\n land\nyears 1\n\nlaw 0 odds 0 ;\n", 1);
        fine("land years1law0odds0;person0 1;post at0;", 3);
        for (int sign = 0; sign < 256; sign++) {
            boolean isBlank = sign == 32 || sign == 10;
            boolean isFine = isBlank || sign == ';' || sign >= '0' && sign <= '9' || sign >= 'a' && sign <= 'z';
            if (!isFine) {
                fault(OPEN + (char) sign, 1, 26);
                fault("land" + (char) sign + "years 1 law 0 odds 0;", 1, 4);
            } else if (isBlank) {
                fine("land" + (char) sign + "years 1 law 0 odds 0;", 1);
                fault(OPEN.substring(0, 25) + (char) sign, 1, 26);
            }
        }
        fault("landyears 1 law 0 odds 0;", 1, 0);
        fault("lan", 1, 0);
        fault("l and", 1, 0);
        fault("lands years", 1, 0);
        fault("land yearsl 1", 1, 5);
        fault("land years 1 2", 1, 13);
        fault(OPEN + "persons;", 1, 26);
        fault(OPEN + "perso n;", 1, 26);
        fault(OPEN + "person 0 a;", 1, 35);
        fault(OPEN + "person -1;", 1, 33);
        fault(OPEN + "person 1,2;", 1, 34);
        fault(OPEN + "z", 1, 26);
        fault(OPEN + "a", 1, 26);
        fault(OPEN + "9", 1, 26);
        fault(OPEN + "0;", 1, 26);
        fault(OPEN + ";", 1, 26);
        for (String word : new String[] {"years", "law", "odds", "at", "land"}) {
            fault(OPEN + word + ";", 1, 26);
        }
        for (String word : new String[] {"person", "likes", "hates", "wrong", "post", "years", "at", "x", "1", ";"}) {
            fault(word + " 0;", 1, 0);
        }
        fault("land land years", 1, 5);
        String whole = "land years 2 law 3 odds 9;person;person;likes 0 1 1;hates 0 1 1;wrong 0 1 1 at 0;post at 0;";
        fine(whole, 7);
        for (int i = 0; i < whole.length(); i++) {
            int from = i;
            while (from > 0 && Character.isLetter(whole.charAt(from - 1))) {
                from--;
            }
            if (Character.isLetter(whole.charAt(i))) {
                fault(whole.substring(0, i) + "q" + whole.substring(i + 1), 1, from);
                fault(whole.substring(0, i) + "zz" + whole.substring(i), 1, from);
            }
        }
        for (char sign = 'a'; sign <= 'z'; sign++) {
            fault(OPEN + "person" + sign + ";", 1, 26);
            fault(OPEN + sign + "person;", 1, 26);
        }
        for (char sign = '0'; sign <= '9'; sign++) {
            fault("land years 2" + sign + " law 0 odds 0;", 2, 11);
            fault(OPEN + "person 7" + sign + ";", 2, 33);
        }
        fault(OPEN + "person;land years 1 law 0 odds 0;", 1, 33);
    }

    private static void promise5FirstPlace() {
        fault("land years 0 ?", 2, 11);
        fault("land ? years 0", 1, 5);
        fault(OPEN + "person 7 7 ?", 2, 33);
        fault(TWO + "likes 0 0 61;", 2, 48);
        fault(TWO + "wrong 9 9 99 at 99;", 2, 46);
        fault("land", 1, 4);
        fault("land \n", 1, 6);
        fault("land years 1 law 0 odds 0", 1, 25);
        fault("land years 1 law 0 odds 0 ", 1, 26);
        fault(OPEN + "person", 1, 32);
        fault(OPEN + "person 0", 1, 34);
        fault(TWO + "likes 0 1 1", 1, 51);
        fault(TWO + "wrong 0 1 1 at 0", 1, 56);
        fault(OPEN + "post at 0", 1, 35);
        fault(OPEN + "person;".repeat(6) + "post person;", 1, 73);
        fault(OPEN + "person;".repeat(6) + "post at 12;person;", 2, 76);
    }

    private static void promise5TooMany() {
        fine(OPEN + "person;".repeat(6), 7);
        fault(OPEN + "person;".repeat(7), 3, 68);
        fault(OPEN + "person;".repeat(6) + "person ?", 3, 68);
        fault(OPEN + "person;".repeat(6) + "person", 3, 68);
        fine(TWO + "likes 0 1 1;".repeat(20), 23);
        fine(TWO + "hates 0 1 1;".repeat(20), 23);
        fine(TWO + "hates 0 1 1;likes 0 1 1;".repeat(10), 23);
        fault(TWO + "likes 0 1 1;".repeat(21), 3, 280);
        fault(TWO + "hates 0 1 1;".repeat(21), 3, 280);
        fault(TWO + "likes 0 1 1;".repeat(20) + "hates 9", 3, 280);
        fault(TWO + "hates 0 1 1;".repeat(20) + "likes 9", 3, 280);
        fine(TWO + "wrong 0 1 1 at 0;".repeat(8), 11);
        fault(TWO + "wrong 0 1 1 at 0;".repeat(9), 3, 176);
        fault(TWO + "wrong 0 1 1 at 0;".repeat(8) + "wrong 0 0", 3, 176);
        fine(OPEN + "post at 0;".repeat(5), 6);
        fault(OPEN + "post at 0;".repeat(6), 3, 76);
        fault(OPEN + "post at 0;".repeat(5) + "post ?", 3, 76);
        fault(OPEN + "person;".repeat(6) + "person 6;", 3, 68);
        fault(OPEN + "person;".repeat(6) + "persons", 1, 68);
    }

    private static void promise6Skills() {
        String six = OPEN + "person 5;person 0 1 2 3 4 5;person;person 0;person 2 4;person 5 0;";
        EnemyLetters x = Due.land(six);
        int[] want = {32, 63, 0, 1, 20, 33};
        for (int p = 0; p < 6; p++) {
            Due.due(6, "skills(" + p + "), numbered as they stand", x.skills(p), want[p]);
        }
        Due.due(6, "skills(6) of six", x.skills(6), -2);
        Due.due(6, "skills(-1)", x.skills(-1), -2);
        Due.due(6, "skills(0) of no persons", Due.land(OPEN).skills(0), -2);
        Due.due(6, "skills(0) without a land", new EnemyLetters().skills(0), -2);
    }

    private static void promise7Needs() {
        EnemyLetters x = Due.land(OPEN + "post at 11 0 1 2 3 4 5;post at 0;post at 1 5;post at 2 0;post at 1 4 2;");
        int[] want = {63, 0, 32, 1, 20};
        for (int q = 0; q < 5; q++) {
            Due.due(7, "needs(" + q + "), also of no year there is", x.needs(q), want[q]);
        }
        Due.due(7, "needs(5) of five", x.needs(5), -2);
        Due.due(7, "needs(-1)", x.needs(-1), -2);
        Due.due(7, "needs(0) of no posts", Due.land(OPEN).needs(0), -2);
        Due.due(7, "needs(0) without a land", new EnemyLetters().needs(0), -2);
    }

    private static void promise8Year() {
        EnemyLetters x = Due.land(OPEN + "post at 11;post at 0;post at 1;post at 2;post at 10;");
        int[] want = {11, 0, 1, 2, 10};
        for (int q = 0; q < 5; q++) {
            Due.due(8, "year(" + q + "), as told", x.year(q), want[q]);
        }
        Due.due(8, "year(5) of five", x.year(5), -2);
        Due.due(8, "year(-1)", x.year(-1), -2);
        Due.due(8, "year(0) of no posts", Due.land(OPEN).year(0), -2);
        Due.due(8, "year(0) without a land", new EnemyLetters().year(0), -2);
    }
}
