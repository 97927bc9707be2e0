/** Promises 60 to 78 and terms VIII to X: each sentence that names a bound, by answers that were made by hand. */
public final class BoundsChangesTest {
    private static final String ONE = "land years 1 law 0 odds 0;";
    private static final String TWO = "person;person;";
    private static final String SIX = "person;".repeat(6);
    private static final int[] FAR = {Integer.MIN_VALUE, Integer.MAX_VALUE};

    /** 0 can do all, and 1 .. 5 hate him by 1 .. 5. */
    private static final String FIVE = ONE + "person 0 1 2 3 4 5;" + "person;".repeat(5)
        + "hates 1 0 1;hates 2 0 2;hates 3 0 3;hates 4 0 4;hates 5 0 5;";

    public static void main(String[] args) {
        promise60Worth();
        promise61Share();
        promise62Rests();
        promise63Wins();
        promise64Chance();
        promise64Thaws();
        noTrace();
        promise65Mean();
        promise66Wrongs();
        promise67Amends();
        promises66And67Full();
        promise68Undo();
        promise69Anew();
        promise70Drawn();
        promise71Luck();
        promise72Rate();
        promise73Count();
        promises74And75Images();
        promises74And75NoLand();
        promises74And75Refused();
        promise76Row();
        promise77Write();
        promise77Widths();
        promise78Paste();
        promise78Refused();
        Due.finish(60, 78);
    }

    private static void promise60Worth() {
        EnemyLetters x = Due.land(FIVE + "post at 0 0 1 2 3 4;post at 0 5;post at 0;post at 1;post at 0 0 1 2 3 4 5;");
        Due.due(60, "nobody writes", x.worth(0, 0, 0), 0);
        Due.due(60, "nobody writes for one letter", x.worth(0, 1, 0), 0);
        Due.due(60, "all five, and he himself", x.worth(0, 0, 63), 15);
        Due.due(60, "all five", x.worth(0, 0, 62), 15);
        Due.due(60, "four of five, and he himself: there are not so many", x.worth(0, 0, 61), 0);
        Due.due(60, "he himself alone", x.worth(0, 1, 1), 0);
        Due.due(60, "the last alone", x.worth(0, 1, 32), 5);
        Due.due(60, "the first two: the one who hates most", x.worth(0, 1, 6), 2);
        Due.due(60, "none needed", x.worth(0, 2, 63), 0);
        Due.due(60, "of no year there is", x.worth(0, 3, 63), 0);
        Due.due(60, "six needed", x.worth(0, 4, 63), 0);
        Due.due(60, "he can't", x.worth(1, 1, 63), 0);
        Due.due(60, "a set of a seventh", x.worth(0, 1, 64), -2);
        Due.due(60, "a set of a seventh and others", x.worth(0, 1, 127), -2);
        Due.due(60, "a set below 0", x.worth(0, 1, -1), -2);
        for (int set : FAR) {
            Due.due(60, "set " + set, x.worth(0, 1, set), -2);
        }
        EnemyLetters y = Due.land(ONE + "person 0;person;post at 0 0;");
        y.wrongs(0, 1, 7, 0);
        Due.due(60, "by feelings as now, with acts", y.worth(0, 0, 2), 7);
        Due.due(60, "the greatest set of two", y.worth(0, 0, 3), 7);
        Due.due(60, "a set of a third", y.worth(0, 0, 4), -2);
        EnemyLetters one = Due.land(ONE + "person;post at 0;");
        Due.due(60, "the greatest set of one", one.worth(0, 0, 1), 0);
        Due.due(60, "a set of a second", one.worth(0, 0, 2), -2);
    }

    private static void share(EnemyLetters x, int post, int other, int above, int below) {
        Due.due(61, "share(0, " + post + ", " + other + ", 0)", x.share(0, post, other, 0), above);
        Due.due(61, "share(0, " + post + ", " + other + ", 1)", x.share(0, post, other, 1), below);
    }

    private static void promise61Share() {
        EnemyLetters x = Due.land(FIVE + "post at 0 0 1 2 3 4;post at 0 5;post at 0;post at 1;post at 0 0 1 2 3 4 5;");
        int[] above = {0, 1, 9, 47, 77, 137};
        int[] below = {0, 5, 20, 60, 60, 60};
        for (int p = 1; p < 6; p++) {
            share(x, 0, p, 3, 1);
            share(x, 1, p, above[p], below[p]);
            share(x, 2, p, 0, 1);
            share(x, 3, p, 0, 1);
            share(x, 4, p, 0, 1);
        }
        for (int what : new int[] {-1, 2, Integer.MIN_VALUE, Integer.MAX_VALUE}) {
            Due.due(61, "share(0, 0, 1, " + what + ")", x.share(0, 0, 1, what), -2);
        }
        Due.due(61, "one twice", x.share(0, 0, 0, 0), -2);
        share(Due.land(ONE + "person 0;person;hates 1 0 60;post at 0 0;"), 0, 1, 60, 1);
        EnemyLetters three = Due.land(ONE + "person 0;person;person;hates 1 0 1;likes 2 0 9;post at 0 0;");
        share(three, 0, 1, 1, 1);
        share(three, 0, 2, 0, 1);
        EnemyLetters last = Due.land(ONE + "person;person;person;person 0;hates 0 3 6;hates 1 3 3;hates 2 3 1;post at 0 0;");
        Due.due(61, "share for the last, above", last.share(3, 0, 1, 0), 4);
        Due.due(61, "share for the last, below", last.share(3, 0, 1, 1), 3);
        Due.due(61, "share of the first for the last, above", last.share(3, 0, 0, 0), 13);
        EnemyLetters half = Due.land(ONE + "person 0;person;person;hates 1 0 1;hates 2 0 1;post at 0 0;");
        share(half, 0, 1, 1, 2);
        share(half, 0, 2, 1, 2);
    }

    private static void promise62Rests() {
        String three = ONE + "person 0;person 0;person;";
        Due.due(62, "1: neither does, nothing is to get", Due.land(ONE + "person;person;person;").rests(0, 1), 1);
        Due.due(62, "2: the first one does", Due.land(three + "post at 0 0;").rests(0, 1), 2);
        Due.due(62, "4: the other one does", Due.land(three + "post at 0 0;").rests(1, 0), 4);
        Due.due(62, "8: both do", Due.land(three + "post at 0 0;post at 0 0;").rests(0, 1), 8);
        Due.due(62, "0: there is none", Due.land(three + "hates 2 0 5;hates 2 1 4;post at 0 0;").rests(0, 1), 0);
        Due.due(62, "two persons: the other one is the last", Due.land(ONE + "person 0;person 0;post at 0 0;").rests(0, 1), 2);
        Due.due(62, "told the other way", Due.land(ONE + "person 0;person 0;post at 0 0;").rests(1, 0), 4);
        Due.due(62, "one twice", Due.land(three).rests(2, 2), -2);
        EnemyLetters x = Due.land(three + "post at 0 0;");
        x.rests(0, 1);
        Due.due(62, "no wrong is done by asking", x.hurts(2), 0);
    }

    private static void promise63Wins() {
        String three = ONE + "person 0;person 0;person;";
        String post = "post at 0 0;";
        Due.due(63, "a wrong of 10 is as much: the first", Due.land(three + "hates 2 1 10;" + post).wins(0, 1, 1, 0), 5);
        Due.due(63, "a wrong of 10 is less than 11", Due.land(three + "hates 2 1 11;" + post).wins(0, 1, 1, 0), -4);
        Due.due(63, "a wrong of 10 is more than 9", Due.land(three + "hates 2 0 9;" + post).wins(1, 0, 1, 0), 5);
        Due.due(63, "a wrong of 10 is as much: not the other one", Due.land(three + "hates 2 0 10;" + post).wins(1, 0, 1, 0), -4);
        Due.due(63, "-60 at least", Due.land(three + "hates 2 0 60;hates 2 1 55;" + post).wins(1, 0, 1, 0), -4);
        Due.due(63, "-60 for both", Due.land(three + "hates 2 0 55;hates 2 1 60;" + post).wins(0, 1, 1, 1), 5);
        Due.due(63, "by a like of 10", Due.land(three + "likes 2 0 10;" + post).wins(0, 1, 1, 0), -4);
        Due.due(63, "by a like of 9", Due.land(three + "likes 2 0 9;" + post).wins(0, 1, 1, 0), 5);
        Due.due(63, "the last does it to nobody", Due.land(ONE + "person;person 0;post at 0 0;").wins(1, 0, 1, 0), -4);
        Due.due(63, "the last, and he gets one", Due.land(ONE + "person;person;post at 0;post at 0;").wins(1, 0, 1, 0), 5);
        Due.due(63, "both do, the first", Due.land(three + post).wins(0, 1, 1, 1), 5);
        Due.due(63, "both do, the other one", Due.land(three + post).wins(1, 0, 1, 1), -4);
        Due.due(63, "the other one alone", Due.land(three + "hates 2 0 9;" + post).wins(0, 1, 0, 1), 0);
        Due.due(63, "the other one alone, not enough", Due.land(three + "hates 2 0 10;" + post).wins(0, 1, 0, 1), 9);
        Due.due(63, "neither: he gets none", Due.land(three + post).wins(0, 1, 0, 0), 0);
        Due.due(63, "neither: he gets one", Due.land(three + "hates 2 0 1;" + post).wins(0, 1, 0, 0), 9);
        Due.due(63, "in year 0, for a post of year 2 by law 2", Due.land("land years 4 law 2 odds 0;person 0;person 0;person;"
            + "post at 2 0;").wins(0, 1, 1, 0), 5);
        Due.due(63, "by year 4 of law 2 it is gone", Due.land("land years 5 law 2 odds 0;person 0;person 0;person;"
            + "post at 4 0;").wins(0, 1, 1, 0), -4);
        EnemyLetters x = Due.land(three + post);
        x.amends(0, 2, 0);
        Due.due(63, "behind amends of year 0", x.wins(0, 1, 1, 0), 5);
        for (int choice : new int[] {-1, 2, 3, Integer.MIN_VALUE, Integer.MAX_VALUE}) {
            Due.due(63, "wins(0, 1, " + choice + ", 0)", x.wins(0, 1, choice, 0), -1000);
            Due.due(63, "wins(0, 1, 0, " + choice + ")", x.wins(0, 1, 0, choice), -1000);
        }
        Due.due(63, "one twice", x.wins(1, 1, 0, 0), -1000);
        Due.due(63, "no wrong is done by asking", x.hurts(2), 0);
    }

    private static void chance(String text, long above, long below) {
        EnemyLetters x = Due.land(text);
        Due.due(64, "chance(0, 0, 0) of " + text, x.chance(0, 0, 0), above);
        Due.due(64, "chance(0, 0, 1) of " + text, x.chance(0, 0, 1), below);
    }

    private static void promise64Chance() {
        String hater = ";person 0;person;hates 1 0 ";
        chance("land years 1 law 0 odds 5" + hater + "1;post at 0 0;", 1, 1);
        chance("land years 1 law 0 odds 10" + hater + "1;post at 0 1;", 0, 1);
        chance("land years 2 law 0 odds 0" + hater + "1;post at 1 0;", 1, 1);
        chance("land years 2 law 0 odds 10" + hater + "1;post at 1 0;", 0, 1);
        chance("land years 2 law 0 odds 1" + hater + "1;post at 1 0;", 9, 10);
        chance("land years 2 law 0 odds 9" + hater + "1;post at 1 0;", 1, 10);
        chance("land years 2 law 0 odds 5" + hater + "1;post at 1 0;", 1, 2);
        chance("land years 2 law 0 odds 5" + hater + "1;post at 0 0;", 1, 1);
        chance("land years 2 law 0 odds 5" + hater + "1;post at 2 0;", 0, 1);
        chance("land years 3 law 0 odds 5" + hater + "2;post at 2 0;", 3, 4);
        chance("land years 3 law 0 odds 5" + hater + "2;post at 1 0;", 1, 1);
        chance("land years 9 law 0 odds 1" + hater + "8;post at 8 0;", 99999999L, 100000000L);
        chance("land years 9 law 0 odds 10" + hater + "8;post at 8 0;", 0, 1);
        chance("land years 9 law 0 odds 10" + hater + "9;post at 8 0;", 1, 1);
        chance("land years 9 law 0 odds 7" + hater + "8;post at 8 0;", 100000000L - 5764801L, 100000000L);
        for (int years = 10; years <= 12; years++) {
            EnemyLetters x = Due.land("land years " + years + " law 0 odds 1" + hater + "1;post at 0 0;");
            for (int what = 0; what < 2; what++) {
                Due.due(64, "chance of " + years + " years", x.chance(0, 0, what), -3);
                Due.due(65, "mean of " + years + " years", x.mean(what), -3);
            }
            Due.due(64, "-2 ahead of -3: a person", x.chance(2, 0, 0), -2);
            Due.due(64, "-2 ahead of -3: a post", x.chance(0, 1, 0), -2);
            Due.due(64, "-2 ahead of -3: what", x.chance(0, 0, 2), -2);
            Due.due(65, "-2 ahead of -3: what", x.mean(2), -2);
        }
    }

    /** With a wrong of 1 in year 1, what was 0 is a hate there, and what was 1 is none. */
    private static void promise64Thaws() {
        int[] told = {-2, -1, 0, 1};
        int[] ways = {1, 1, 1, 0};
        for (int i = 0; i < told.length; i++) {
            String bond = told[i] == 0 ? "" : told[i] > 0 ? "likes 1 0 " + told[i] + ";" : "hates 1 0 " + -told[i] + ";";
            String end = "person 0;person;" + bond + "wrong 0 1 1 at 1;post at 1 0;";
            chance("land years 2 law 0 odds 10;" + end, ways[i], 1);
            chance("land years 2 law 3 odds 10;" + end, ways[i], 1);
        }
        String plain = "person 0;person;hates 1 0 ";
        chance("land years 2 law 1 odds 10;" + plain + "2;post at 1 0;", 0, 1);
        chance("land years 2 law 1 odds 10;" + plain + "3;post at 1 0;", 1, 1);
        chance("land years 2 law 2 odds 10;" + plain + "3;post at 1 0;", 0, 1);
        chance("land years 2 law 2 odds 10;" + plain + "4;post at 1 0;", 1, 1);
        chance("land years 2 law 3 odds 10;" + plain + "2;post at 1 0;", 0, 1);
        EnemyLetters x = Due.land("land years 2 law 0 odds 10;" + plain + "1;post at 1 0;");
        Due.due(64, "what is, is without a thaw", x.gets(0), 0);
        x.chance(0, 0, 0);
        Due.due(64, "and so it is behind asking", x.feels(1, 0, 1), -1);
    }

    private static void mean(String text, long above, long below) {
        EnemyLetters x = Due.land(text);
        Due.due(65, "mean(0) of " + text, x.mean(0), above);
        Due.due(65, "mean(1) of " + text, x.mean(1), below);
    }

    /** What is asked of a land as it would be leaves nothing behind for the next question. */
    private static void noTrace() {
        noTrace("land years 2 law 0 odds 10;person;person 0;hates 1 0 1;hates 0 1 1;wrong 0 1 9 at 5;post at 1 0;post at 1 1;");
        noTrace("land years 2 law 1 odds 10;person;person 0;hates 1 0 2;hates 0 1 2;wrong 0 1 9 at 5;post at 1 0;post at 1 1;");
        noTrace("land years 3 law 1 odds 10;person 0;person 0 1;person;person;hates 2 0 3;hates 3 0 2;hates 2 1 4;"
            + "likes 3 1 2;wrong 0 2 3 at 0;wrong 1 3 6 at 2;post at 2 0;post at 1 1;post at 2 0 1;post at 0;");
    }

    private static void noTrace(String text) {
        Due.Call[] calls = {x -> x.learns(0, 0), x -> x.learns(0, 1), x -> x.least(1, 0, 0), x -> x.learns(1, 0), x -> x.learns(0, 2), x -> x.least(0, 2, 0),
            x -> x.least(1, 3, 2), x -> x.target(1, 0), x -> x.by(0), x -> x.by(2), x -> x.law(), x -> x.spare(),
            x -> x.fits(0, 0), x -> x.fits(0, 1), x -> x.surely(1, 1), x -> x.leaves(1, 0), x -> x.laws(0), x -> x.laws(1),
            x -> x.rests(0, 1), x -> x.wins(0, 1, 1, 1), x -> x.wins(1, 0, 1, 0), x -> x.chance(1, 2, 0), x -> x.chance(0, 0, 1),
            x -> x.mean(0), x -> x.drawn(0, 0), x -> x.drawn(5, 1), x -> x.luck(3, 20, 0, 0), x -> x.best(), x -> x.put(1)};
        for (int i = 0; i < calls.length; i++) {
            long alone = calls[i].on(withRows(text));
            for (int j = 0; j < calls.length; j++) {
                EnemyLetters x = withRows(text);
                calls[j].on(x);
                Due.due(64, "question " + i + " behind question " + j, calls[i].on(x), alone);
            }
        }
    }

    private static EnemyLetters withRows(String text) {
        EnemyLetters x = Due.land(text);
        x.row(0, 0, 2);
        x.row(1, 1, 2);
        x.write(1, 0, 1);
        x.write(1, 1, 1);
        return x;
    }

    private static void promise65Mean() {
        mean(ONE, 0, 1);
        mean(ONE + SIX + "post at 0;".repeat(5), 5, 1);
        mean("land years 9 law 0 odds 5;" + SIX + "post at 8;".repeat(5), 5, 1);
        mean("land years 2 law 0 odds 4;person 0;person;hates 1 0 1;post at 1 0;post at 0;post at 2;", 1, 1);
        mean("land years 2 law 0 odds 4;person;person 0;hates 0 1 1;post at 1 0;post at 0;post at 2;", 8, 5);
        mean("land years 9 law 0 odds 1;person 0;person;hates 1 0 8;post at 8 0;", 99999999L, 100000000L);
        EnemyLetters none = new EnemyLetters();
        Due.due(65, "mean(0) without a land", none.mean(0), -2);
        Due.due(65, "mean(1) without a land", none.mean(1), -2);
        EnemyLetters x = Due.land(ONE);
        for (int what : new int[] {-1, 2, Integer.MIN_VALUE, Integer.MAX_VALUE}) {
            Due.due(65, "mean(" + what + ")", x.mean(what), -2);
            Due.due(64, "chance(0, 0, " + what + ")", Due.land(ONE + "person;post at 0;").chance(0, 0, what), -2);
        }
    }

    private static void promise66Wrongs() {
        EnemyLetters x = Due.land("land years 2 law 0 odds 0;" + TWO + "likes 1 0 60;");
        Due.due(66, "by 1, in year 0", x.wrongs(0, 1, 1, 0), 59);
        Due.due(66, "by 40, in the last year", x.wrongs(0, 1, 40, 1), 19);
        Due.due(66, "by 40 more", x.wrongs(0, 1, 40, 1), -21);
        Due.due(66, "by 39: -60", x.wrongs(0, 1, 39, 1), -60);
        Due.due(66, "by 1 more: -60 at least", x.wrongs(0, 1, 1, 1), -60);
        Due.due(66, "the first one feels nothing by it", x.feels(0, 1, 1), 0);
        Due.due(66, "year 0 is as it was", x.feels(1, 0, 0), 59);
        Due.due(66, "acts", x.count(7), 5);
        EnemyLetters order = Due.land(ONE + TWO + "wrong 0 1 5 at 0;");
        order.amends(0, 1, 0);
        Due.due(66, "an act behind a told wrong and amends", order.wrongs(0, 1, 2, 0), -2);
        int[][] bad = {{0, 0, 1, 0}, {-1, 1, 1, 0}, {3, 1, 1, 0}, {0, -1, 1, 0}, {0, 3, 1, 0}, {0, 1, 0, 0}, {0, 1, -1, 0},
            {0, 1, 41, 0}, {0, 1, Integer.MAX_VALUE, 0}, {0, 1, Integer.MIN_VALUE, 0}, {0, 1, 1, -1}, {0, 1, 1, 2},
            {0, 1, 1, Integer.MAX_VALUE}, {0, 1, 1, Integer.MIN_VALUE}};
        for (int[] b : bad) {
            Due.refused(66, "wrongs " + java.util.Arrays.toString(b), y -> y.wrongs(b[0], b[1], b[2], b[3]), -1000);
        }
    }

    private static void promise67Amends() {
        EnemyLetters x = Due.land("land years 2 law 0 odds 0;" + TWO + "hates 1 0 60;likes 0 1 60;");
        Due.due(67, "in the last year", x.amends(0, 1, 1), 0);
        Due.due(67, "year 0 is as it was", x.feels(1, 0, 0), -60);
        Due.due(67, "in year 0", x.amends(0, 1, 0), 0);
        Due.due(67, "to one who likes", x.amends(1, 0, 1), 60);
        Due.due(67, "to one who feels 0", x.amends(0, 1, 1), 0);
        Due.due(67, "they are acts, all of them", x.count(7), 4);
        Due.due(67, "they can be taken back", x.undo(), 3);
        int[][] bad = {{0, 0, 0}, {-1, 1, 0}, {3, 1, 0}, {0, -1, 0}, {0, 3, 0}, {0, 1, -1}, {0, 1, 2}, {0, 1, Integer.MAX_VALUE},
            {0, 1, Integer.MIN_VALUE}};
        for (int[] b : bad) {
            Due.refused(67, "amends " + java.util.Arrays.toString(b), y -> y.amends(b[0], b[1], b[2]), -1000);
        }
    }

    private static long fill(EnemyLetters x) {
        for (int i = x.count(7); i < 30; i++) {
            x.wrongs(0, 1, 1, 1);
        }
        return x.count(7);
    }

    private static void promises66And67Full() {
        EnemyLetters x = Due.busy();
        for (int i = 4; i <= 29; i++) {
            x.amends(2, 1, 1);
            Due.due(67, "act " + i, x.count(7), i);
        }
        Due.due(66, "the 30th act", x.wrongs(2, 1, 2, 1), -2);
        Due.due(66, "acts", x.count(7), 30);
        Due.due(66, "the 31st", x.wrongs(2, 1, 2, 1), -5);
        Due.due(67, "the 31st", x.amends(2, 1, 1), -5);
        Due.due(66, "what he feels is as it was", x.feels(1, 2, 1), -2);
        x.undo();
        Due.due(67, "the 30th act, amends", x.amends(2, 1, 1), 0);
        Due.refused(66, "wrongs, there were 30", BoundsChangesTest::fill, y -> y.wrongs(2, 1, 2, 1), -5);
        Due.refused(67, "amends, there were 30", BoundsChangesTest::fill, y -> y.amends(0, 1, 1), -5);
        Due.refused(66, "wrongs, -1,000 ahead of -5", BoundsChangesTest::fill, y -> y.wrongs(2, 1, 41, 1), -1000);
        Due.refused(66, "wrongs, one twice ahead of -5", BoundsChangesTest::fill, y -> y.wrongs(2, 2, 1, 1), -1000);
        Due.refused(67, "amends, -1,000 ahead of -5", BoundsChangesTest::fill, y -> y.amends(0, 1, 2), -1000);
        Due.refused(67, "amends, one twice ahead of -5", BoundsChangesTest::fill, y -> y.amends(1, 1, 0), -1000);
    }

    private static void promise68Undo() {
        Due.due(68, "undo() without a land", new EnemyLetters().undo(), -2);
        EnemyLetters x = Due.land(ONE + TWO);
        Due.due(68, "undo() of none", x.undo(), -5);
        x.wrongs(0, 1, 1, 0);
        x.wrongs(0, 1, 2, 0);
        Due.due(68, "undo() of two", x.undo(), 1);
        Due.due(68, "the latest is taken back", x.feels(1, 0, 0), -1);
        Due.due(68, "undo() of one", x.undo(), 0);
        Due.due(68, "all is as told", x.feels(1, 0, 0), 0);
        Due.due(68, "undo() of none again", x.undo(), -5);
        for (int i = 0; i < 30; i++) {
            x.wrongs(0, 1, 1, 0);
        }
        for (int i = 29; i >= 0; i--) {
            Due.due(68, "undo(), then there are " + i, x.undo(), i);
            Due.due(68, "what he feels with " + i, x.feels(1, 0, 0), -i);
        }
        Due.refused(68, "undo() of none", EnemyLetters::anew, EnemyLetters::undo, -5);
        Due.refused(68, "undo() without a land", y -> noLand(y), EnemyLetters::undo, -2);
    }

    /** Takes the land away, with acts still in an image. */
    private static long noLand(EnemyLetters x) {
        x.end(0);
        return x.land();
    }

    private static void promise69Anew() {
        Due.due(69, "anew() without a land", new EnemyLetters().anew(), -2);
        EnemyLetters x = Due.land(ONE + TWO);
        Due.due(69, "anew() of none", x.anew(), 0);
        x.wrongs(0, 1, 1, 0);
        Due.due(69, "anew() of one", x.anew(), 1);
        Due.due(69, "all is as told", x.feels(1, 0, 0), 0);
        Due.due(69, "anew() again", x.anew(), 0);
        fillOneYear(x);
        Due.due(69, "anew() of thirty", x.anew(), 30);
        Due.due(69, "all is as told", x.feels(1, 0, 0), 0);
        Due.due(69, "there is room again", x.wrongs(0, 1, 1, 0), -1);
        Due.refused(69, "anew() without a land", y -> noLand(y), EnemyLetters::anew, -2);
        Due.refused(69, "anew() of none changes nothing", EnemyLetters::anew, EnemyLetters::anew, 0);
    }

    private static void fillOneYear(EnemyLetters x) {
        for (int i = 0; i < 30; i++) {
            x.wrongs(0, 1, 1, 0);
        }
    }

    /** Draws of seed 0: 0 8 8 7 8 7 5 1 2 0 1; of 2,000,000,000: 4 3 1 7 6 2 7 7 5 4 7. */
    private static void promise70Drawn() {
        int[] ofNone = {0, 513, 1665, 1921, 1921, 1921, 1985, 1985, 2025, 2047, 2047};
        int[] ofMost = {0, 0, 4, 36, 38, 551, 807, 823, 2047, 2047, 2047};
        for (int odds = 0; odds <= 10; odds++) {
            EnemyLetters x = Due.land("land years 12 law 0 odds " + odds + ";");
            Due.due(70, "drawn(0, 0), odds " + odds, x.drawn(0, 0), ofNone[odds]);
            Due.due(70, "drawn(2000000000, 0), odds " + odds, x.drawn(2000000000, 0), ofMost[odds]);
            Due.due(70, "drawn(-1, 0)", x.drawn(-1, 0), -2);
            Due.due(70, "drawn(2000000001, 0)", x.drawn(2000000001, 0), -2);
        }
        for (int years = 1; years <= 12; years++) {
            EnemyLetters x = Due.land("land years " + years + " law 0 odds 10;");
            Due.due(70, "a draw for each of " + years + " years ahead of the last", x.drawn(5, 0), (1 << (years - 1)) - 1);
        }
        EnemyLetters x = Due.land("land years 2 law 0 odds 1;person 0;person;hates 1 0 1;post at 1 0;post at 0 1;post at 1;");
        Due.due(70, "drawn(0, 1): a thaw", x.drawn(0, 1), 4);
        Due.due(70, "drawn(1, 1): none", x.drawn(1, 1), 5);
        Due.due(70, "what is, is without a thaw", x.given(), 5);
        Due.due(70, "drawn(0, 1) of all five", Due.land(ONE + SIX + "post at 0;".repeat(5)).drawn(0, 1), 31);
        Due.due(70, "drawn(0, 1) of none", Due.land(ONE).drawn(0, 1), 0);
        for (int what : new int[] {-1, 2, Integer.MIN_VALUE, Integer.MAX_VALUE}) {
            Due.due(70, "drawn(0, " + what + ")", x.drawn(0, what), -2);
        }
        Due.due(70, "drawn(0, 0) without a land", new EnemyLetters().drawn(0, 0), -2);
        Due.due(70, "drawn(0, 1) without a land", new EnemyLetters().drawn(0, 1), -2);
    }

    /** First draws of seeds 0 ..: 0 8 8 7 7 5 6 4 4 2 3 1 1 0 0 8 9 7 7 6; of 2,000,000,000 ..: 4 2 2 1 1 9 0 8 8 6 .. 0. */
    private static void promise71Luck() {
        EnemyLetters x = Due.land("land years 2 law 0 odds 5;person 0;person;hates 1 0 1;post at 1 0;");
        Due.due(71, "luck(0, 1, ..), the least", x.luck(0, 1, 0, 0), 0);
        Due.due(71, "luck(1, 1, ..)", x.luck(1, 1, 0, 0), 1);
        Due.due(71, "luck(0, 2, ..): the seed and 1", x.luck(0, 2, 0, 0), 1);
        Due.due(71, "luck(0, 19, ..)", x.luck(0, 19, 0, 0), 10);
        Due.due(71, "luck(0, 20, ..), the greatest", x.luck(0, 20, 0, 0), 11);
        Due.due(71, "luck(2000000000, 1, ..)", x.luck(2000000000, 1, 0, 0), 0);
        Due.due(71, "luck(2000000000, 5, ..)", x.luck(2000000000, 5, 0, 0), 0);
        Due.due(71, "luck(2000000000, 6, ..): seeds beyond the greatest", x.luck(2000000000, 6, 0, 0), 1);
        Due.due(71, "luck(2000000000, 20, ..)", x.luck(2000000000, 20, 0, 0), 7);
        Due.due(71, "luck(0, 20, ..) of one who never does", x.luck(0, 20, 1, 0), 0);
        Due.due(71, "luck(0, 20, ..) of one who always does", Due.land(ONE + "person;post at 0;").luck(0, 20, 0, 0), 20);
        int[][] bad = {{-1, 1}, {2000000001, 1}, {Integer.MAX_VALUE, 1}, {Integer.MIN_VALUE, 1}, {0, 0}, {0, 21}, {0, -1},
            {0, Integer.MAX_VALUE}, {0, Integer.MIN_VALUE}};
        for (int[] b : bad) {
            Due.due(71, "luck(" + b[0] + ", " + b[1] + ", 0, 0)", x.luck(b[0], b[1], 0, 0), -2);
        }
        Due.due(71, "what is, is without a thaw", x.gets(0), 0);
    }

    private static void promise72Rate() {
        EnemyLetters x = Due.land(ONE + "person 0 5;person;hates 1 0 3;post at 0 1;");
        Due.due(72, "rate(0, 63): what they were", x.rate(0, 63), 33);
        Due.due(72, "from now on", x.skills(0), 63);
        Due.due(72, "the post, too", x.gets(0), 0);
        Due.due(72, "rate(0, 0)", x.rate(0, 0), 63);
        Due.due(72, "from now on", x.skills(0), 0);
        Due.due(72, "the post is gone", x.gets(0), -1);
        Due.due(72, "rate is no act", x.count(7), 0);
        Due.due(72, "rate(1, 1), the last person", x.rate(1, 1), 0);
        x.wrongs(0, 1, 1, 0);
        Due.due(72, "rate with an act", x.rate(0, 1), -5);
        Due.due(72, "rate with an act: -2 ahead of -5", x.rate(2, 1), -2);
        x.undo();
        Due.due(72, "rate with the act taken back", x.rate(0, 1), 0);
        x.amends(0, 1, 0);
        Due.due(72, "rate with amends", x.rate(0, 2), -5);
        x.anew();
        Due.due(72, "rate with all taken back", x.rate(0, 2), 1);
        for (int set : new int[] {-1, 64, 65, 127, Integer.MIN_VALUE, Integer.MAX_VALUE}) {
            Due.refused(72, "rate(0, " + set + ")", EnemyLetters::anew, y -> y.rate(0, set), -2);
            Due.refused(72, "rate(0, " + set + "), with acts", y -> y.rate(0, set), -2);
        }
        for (int person : new int[] {-1, 3, Integer.MIN_VALUE, Integer.MAX_VALUE}) {
            Due.refused(72, "rate(" + person + ", 1)", EnemyLetters::anew, y -> y.rate(person, 1), -2);
        }
        Due.refused(72, "rate(0, 2) with acts", y -> y.rate(0, 2), -5);
        Due.refused(72, "rate(0, 2) without a land", y -> noLand(y), y -> y.rate(0, 2), -2);
    }

    private static void promise73Count() {
        EnemyLetters x = Due.land("land years 12 law 3 odds 10;" + SIX + "likes 0 1 1;".repeat(20) + "wrong 0 1 1 at 0;".repeat(8)
            + "post at 0;".repeat(5));
        fillOneYear(x);
        Due.feed(x, " ".repeat(800));
        for (int slot = 0; slot < 4; slot++) {
            Due.due(73, "count(10)", x.count(10), slot);
            x.row(slot, 0, 0);
        }
        int[] most = {12, 3, 10, 6, 20, 8, 5, 30, 40, 800, 4};
        for (int what = 0; what <= 10; what++) {
            Due.due(73, "count(" + what + "), the greatest", x.count(what), most[what]);
        }
        for (int what : new int[] {-1, 11, 12, Integer.MIN_VALUE, Integer.MAX_VALUE, 256}) {
            Due.due(73, "count(" + what + ")", x.count(what), -1);
            Due.due(73, "count(" + what + ") without a land", new EnemyLetters().count(what), -1);
        }
        x.row(0, 0, 60);
        Due.due(73, "count(10): in place of another one", x.count(10), 4);
        EnemyLetters least = Due.land(ONE);
        int[] few = {1, 0, 0, 0, 0, 0, 0, 0, 1, 0, 0};
        for (int what = 0; what <= 10; what++) {
            Due.due(73, "count(" + what + "), the least land", least.count(what), few[what]);
            Due.due(73, "count(" + what + ") without a land", new EnemyLetters().count(what), 0);
        }
    }

    private static void promises74And75Images() {
        EnemyLetters x = Due.land(ONE + TWO + "post at 0;");
        for (int k = 0; k < 3; k++) {
            Due.due(75, "back(" + k + ") of nothing", x.back(k), -6);
            x.wrongs(0, 1, 1, 0);
            Due.due(74, "image(" + k + ")", x.image(k), 0);
        }
        x.wrongs(0, 1, 9, 0);
        for (int k = 2; k >= 0; k--) {
            Due.due(75, "back(" + k + ")", x.back(k), 0);
            Due.due(75, "acts of image " + k, x.count(7), k + 1);
            Due.due(75, "feelings of image " + k, x.feels(1, 0, 0), -1 - k);
        }
        x.anew();
        x.rate(1, 63);
        Due.due(74, "image(1), in place of another one", x.image(1), 0);
        x.back(2);
        Due.due(75, "image 2 has no such skills", x.skills(1), 0);
        x.wrongs(0, 1, 1, 0);
        x.back(1);
        Due.due(75, "image 1 has", x.skills(1), 63);
        Due.due(75, "and no acts", x.count(7), 0);
        x.back(2);
        Due.due(75, "image 2 is as it was kept", x.count(7), 3);
        Due.due(75, "acts can be taken back", x.undo(), 2);
        fillOneYear(x);
        x.image(0);
        x.anew();
        x.back(0);
        Due.due(75, "an image of thirty acts", x.count(7), 30);
        Due.due(75, "there is no room then", x.wrongs(0, 1, 1, 0), -5);
        Due.tell(x, "land years 12 law 3 odds 10;" + SIX);
        x.back(2);
        Due.due(75, "another land is gone", x.count(8), 4);
        Due.due(75, "lines, years, law, odds, persons", x.count(0) + 10 * x.count(1) + 100 * x.count(2) + 1000 * x.count(3), 2001);
    }

    private static void promises74And75NoLand() {
        EnemyLetters x = new EnemyLetters();
        Due.due(74, "image(0) without a land", x.image(0), 0);
        Due.tell(x, ONE + TWO + "post at 0;");
        x.wrongs(0, 1, 1, 0);
        Due.due(75, "back(0) to no land", x.back(0), 0);
        Due.due(75, "there is none", x.given(), -2);
        for (int what = 0; what <= 8; what++) {
            Due.due(75, "count(" + what + ") of none", x.count(what), 0);
        }
        Due.due(75, "undo() of none", x.undo(), -2);
    }

    private static void promises74And75Refused() {
        for (int k : new int[] {-1, 3, 4, Integer.MIN_VALUE, Integer.MAX_VALUE}) {
            Due.refused(74, "image(" + k + ")", y -> y.image(k), -2);
            Due.refused(75, "back(" + k + ")", y -> y.back(k), -2);
        }
        Due.refused(75, "back(1), that has nothing", y -> y.back(1), -6);
        EnemyLetters x = Due.busy();
        x.back(0);
        Due.due(75, "the tape is as it was", x.count(9), 35);
        Due.due(75, "rows are as they were", x.count(10), 3);
        Due.due(75, "the latest fault is as it was", x.fault(1), 5);
        Due.due(75, "the other image is as it was", x.back(2) + x.count(7), 0);
        Due.due(75, "and so is the one without", x.back(1), -6);
    }

    private static void promise76Row() {
        EnemyLetters x = Due.land(ONE + TWO + "post at 0;post at 0;");
        for (int slot = 0; slot < 4; slot++) {
            for (int width = 0; width < 4; width++) {
                Due.due(76, "row(" + slot + ", " + width + ", 60)", x.row(slot, width, 60), 0);
                Due.due(76, "it has 60 numbers", x.write(slot, 59, 1), 0);
                Due.due(76, "and no more", x.write(slot, 60, 1), -7);
                Due.due(76, "row(" + slot + ", " + width + ", 1)", x.row(slot, width, 1), 0);
                Due.due(76, "it has one number", x.write(slot, 0, 1), 0);
                Due.due(76, "and no more", x.write(slot, 1, 1), -7);
                Due.due(76, "row(" + slot + ", " + width + ", 0)", x.row(slot, width, 0), 0);
                Due.due(76, "it has no number", x.write(slot, 0, 1), -7);
                Due.due(76, "it is a row", x.laws(slot), 15);
            }
        }
        x.row(0, 0, 60);
        for (int i = 0; i < 60; i++) {
            x.write(0, i, 99);
        }
        Due.due(76, "99 is no post", x.fits(0, 0), -2);
        x.row(0, 0, 60);
        Due.due(76, "all 0, in place of another one", x.fits(0, 0), 64);
        for (int bad : new int[] {-1, 4, Integer.MIN_VALUE, Integer.MAX_VALUE}) {
            Due.refused(76, "row(" + bad + ", 0, 1)", y -> y.row(bad, 0, 1), -2);
            Due.refused(76, "row(0, " + bad + ", 1)", y -> y.row(0, bad, 1), -2);
            Due.refused(76, "row(" + bad + ", 0, -1): -2 ahead of -3", y -> y.row(bad, 0, -1), -2);
            Due.refused(76, "row(0, " + bad + ", -1): -2 ahead of -3", y -> y.row(0, bad, -1), -2);
        }
        for (int many : new int[] {61, 64, Integer.MAX_VALUE}) {
            Due.refused(76, "row(0, 0, " + many + ")", y -> y.row(0, 0, many), -2);
            Due.refused(76, "row(2, 0, " + many + "), where there is nothing", y -> y.row(2, 0, many), -2);
        }
        for (int few : new int[] {-1, -2, -60, Integer.MIN_VALUE}) {
            Due.refused(76, "row(0, 0, " + few + ")", y -> y.row(0, 0, few), -3);
            Due.refused(76, "row(2, 3, " + few + "), where there is nothing", y -> y.row(2, 3, few), -3);
        }
    }

    private static void promise77Write() {
        for (int bad : new int[] {-1, 4, Integer.MIN_VALUE, Integer.MAX_VALUE}) {
            Due.refused(77, "write(" + bad + ", 0, 1)", y -> y.write(bad, 0, 1), -2);
        }
        Due.refused(77, "write(2, 0, 1), where there is nothing", y -> y.write(2, 0, 1), -6);
        Due.refused(77, "write(2, -1, 1), where there is nothing", y -> y.write(2, -1, 1), -6);
        for (int i : new int[] {-1, 4, 5, 59, 60, Integer.MIN_VALUE, Integer.MAX_VALUE}) {
            Due.refused(77, "write(0, " + i + ", 1) of four", y -> y.write(0, i, 1), -7);
        }
        EnemyLetters x = Due.land(ONE + TWO + "post at 0;post at 0;");
        x.row(0, 0, 4);
        x.write(0, 0, 1);
        x.write(0, 1, 1);
        Due.due(77, "the last number", x.write(0, 3, 1), 0);
        Due.due(77, "1 1 0 1: 1 got post 0, too: none fits", x.fits(0, 0), 0);
        Due.due(77, "the first number again", x.write(0, 0, 0), 0);
        Due.due(77, "0 1 0 1", x.fits(0, 0), 0);
        x.write(0, 1, 0);
        x.write(0, 3, 0);
        Due.due(77, "0 0 0 0", x.fits(0, 0), 64);
    }

    /** Post v by its number: it is there (0 got it: 64 sets; 1 got it: none), or it is none such. */
    private static void promise77Widths() {
        for (int width = 0; width < 4; width++) {
            int bits = 8 << width;
            long[] values = {0, 1, 2, -1, 127, 128, 255, 256, 257, 258, -256, 32767, 32768, 65535, 65536, 65537, -65536,
                2147483647L, 2147483648L, 4294967295L, 4294967296L, 4294967297L, -4294967296L, Long.MAX_VALUE, Long.MIN_VALUE};
            for (long v : values) {
                EnemyLetters x = Due.land(ONE + TWO + "post at 0;post at 0;");
                x.row(0, width, 2);
                Due.due(77, "write(0, 0, " + v + ")", x.write(0, 0, v), 0);
                long cut = new java.math.BigInteger(Long.toString(v)).mod(java.math.BigInteger.ONE.shiftLeft(bits)).longValue();
                boolean isPost = cut == 0 || cut == 1;
                Due.due(77, v + " cut to " + bits + " bits, as a post", x.fits(0, 0), isPost ? cut == 0 ? 64 : 0 : -2);
                x.write(0, 0, 0);
                x.write(0, 1, v);
                long all = bits == 64 ? -1L : (1L << bits) - 1;
                boolean isPerson = isPost || cut == all;
                Due.due(77, v + " cut to " + bits + " bits, as a person", x.fits(0, 0), isPerson ? cut == 0 ? 64 : 0 : -2);
                Due.due(77, "its neighbour is as it was: " + v, x.write(0, 1, 0) + x.fits(0, 0), 64);
            }
        }
    }

    private static void promise78Paste() {
        EnemyLetters x = Due.land(ONE + TWO + "post at 0;post at 0;");
        x.row(0, 1, 60);
        x.row(1, 1, 2);
        Due.due(78, "the last two of sixty", x.paste(0, 58, 1, 0, 2), 0);
        Due.due(78, "to the last two of sixty", x.paste(1, 0, 0, 58, 2), 0);
        Due.due(78, "all sixty to themselves", x.paste(0, 0, 0, 0, 60), 0);
        Due.due(78, "one, the last, to the first", x.paste(0, 59, 0, 0, 1), 0);
        Due.due(78, "none at all", x.paste(0, 0, 1, 0, 0), 0);
        Due.due(78, "none, at both ends", x.paste(0, 60, 1, 2, 0), 0);
        x.row(2, 1, 0);
        Due.due(78, "none of a row of none", x.paste(2, 0, 2, 0, 0), 0);
        Due.due(78, "one of a row of none", x.paste(2, 0, 1, 0, 1), -7);
        Due.due(78, "one to a row of none", x.paste(1, 0, 2, 0, 1), -7);
        overlap("forward by one", new int[] {0, 0, 1, 1}, 0, 1, 3, new int[] {0, 0, 0, 1});
        overlap("forward by one, as they were", new int[] {1, 1, 0, 0}, 0, 1, 3, new int[] {1, 1, 1, 0});
        overlap("back by one", new int[] {1, 0, 1, 1}, 1, 0, 3, new int[] {0, 1, 1, 1});
        overlap("back by two", new int[] {0, 0, 1, 1}, 2, 0, 2, new int[] {1, 1, 1, 1});
        overlap("to itself", new int[] {0, 0, 1, 1}, 1, 1, 2, new int[] {0, 0, 1, 1});
        for (int width = 0; width < 4; width++) {
            x.row(0, width, 2);
            x.row(1, width, 2);
            x.write(0, 1, -1);
            Due.due(78, "of width " + width, x.paste(0, 0, 1, 0, 2), 0);
            Due.due(78, "-1 is -1 there", x.fits(1, 0), 0);
            x.write(0, 1, 0);
            Due.due(78, "the other row is its own", x.fits(1, 0) + x.fits(0, 0), 64);
        }
    }

    private static void overlap(String what, int[] row, int from, int to, int n, int[] then) {
        EnemyLetters x = Due.land(ONE + TWO + "post at 0;post at 0;");
        x.row(0, 0, 4);
        for (int i = 0; i < 4; i++) {
            x.write(0, i, row[i]);
        }
        Due.due(78, what, x.paste(0, from, 0, to, n), 0);
        for (int i = 0; i < 4; i++) {
            Due.due(78, what + ": number " + i, numberAt(x, i), then[i]);
        }
    }

    /** A number of slot 0, 0 or 1, read by what slot 3 with it as a person fits: post 0 goes to 0. */
    private static int numberAt(EnemyLetters x, int i) {
        x.row(3, 0, 2);
        x.paste(0, i, 3, 1, 1);
        return x.fits(3, 0) == 64 ? 0 : 1;
    }

    private static void promise78Refused() {
        for (int bad : new int[] {-1, 4, Integer.MIN_VALUE, Integer.MAX_VALUE}) {
            Due.refused(78, "paste from slot " + bad, y -> y.paste(bad, 0, 0, 0, 1), -2);
            Due.refused(78, "paste to slot " + bad, y -> y.paste(0, 0, bad, 0, 1), -2);
            Due.refused(78, "paste of nothing to slot " + bad + ": -2 ahead of -6", y -> y.paste(2, 0, bad, 0, 1), -2);
            Due.refused(78, "paste from slot " + bad + " to nothing: -2 ahead of -6", y -> y.paste(bad, 0, 2, 0, 1), -2);
        }
        Due.refused(78, "paste of nothing", y -> y.paste(2, 0, 0, 0, 1), -6);
        Due.refused(78, "paste to nothing", y -> y.paste(0, 0, 2, 0, 1), -6);
        Due.refused(78, "paste of nothing to itself", y -> y.paste(2, 0, 2, 0, 0), -6);
        Due.refused(78, "paste of nothing, from below 0", y -> y.paste(2, -1, 0, 0, 1), -6);
        Due.refused(78, "paste of another width", y -> y.paste(0, 0, 3, 0, 1), -8);
        Due.refused(78, "paste of another width, none", y -> y.paste(3, 0, 0, 0, 0), -8);
        Due.refused(78, "paste of another width, beyond", y -> y.paste(3, 0, 0, 0, 9), -8);
        int[][] beyond = {{0, 0, 1, 0, 4}, {0, 2, 1, 0, 3}, {0, 4, 1, 0, 1}, {0, 0, 1, 1, 3}, {0, 0, 1, 3, 1}, {1, 0, 0, 2, 3},
            {0, 0, 0, 1, 4}, {0, 1, 0, 0, 4}, {0, -1, 1, 0, 1}, {0, 0, 1, -1, 1}, {0, 0, 1, 0, -1}, {0, -1, 0, -1, 0},
            {0, 1, 1, 1, -1}, {0, Integer.MAX_VALUE, 1, 0, 1}, {0, 0, 1, Integer.MAX_VALUE, 1},
            {0, 1, 1, 1, Integer.MAX_VALUE}, {0, Integer.MAX_VALUE, 1, Integer.MAX_VALUE, Integer.MAX_VALUE},
            {0, Integer.MIN_VALUE, 1, 0, 1}, {0, 0, 1, Integer.MIN_VALUE, 1}, {0, 0, 1, 0, Integer.MIN_VALUE},
            {0, 5, 1, 0, 0}, {0, 0, 1, 4, 0}};
        for (int[] b : beyond) {
            Due.refused(78, "paste " + java.util.Arrays.toString(b), y -> y.paste(b[0], b[1], b[2], b[3], b[4]), -7);
        }
    }
}
