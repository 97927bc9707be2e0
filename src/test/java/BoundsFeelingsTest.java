/** Promises 9 to 33 and term II: each sentence that names a bound, by answers that were made by hand. */
public final class BoundsFeelingsTest {
    private static final String ONE = "land years 1 law 0 odds 0;";
    private static final String TWO = "person;person;";
    private static final String SIX = "person;".repeat(6);

    /** Towards 0: 1 feels -1, 2 feels 0, 3 feels 1, 4 feels -60, 5 feels 60. */
    private static final String EDGES = ONE + SIX + "hates 1 0 1;likes 3 0 1;hates 4 0 60;likes 5 0 60;";

    public static void main(String[] args) {
        promise9Laws();
        promise9Wrongs();
        promise9Years();
        promises10To15OneIsNotZero();
        promises10To18FirstOfSeveral();
        promises10To33Least();
        promise16Praise();
        promise19Steady();
        promise20Cold();
        promises21And22Wrongs();
        promise23All();
        promise24Top();
        promise25Next();
        promise26First();
        promises27To29OneByOne();
        promise30Hated();
        promise31Porter();
        promises32And33All();
        promises32And33Some();
        questionsChangeNothing();
        Due.finish(9, 33);
    }

    private static String bond(int feeling) {
        if (feeling == 0) {
            return "";
        }
        return feeling > 0 ? "likes 0 1 " + feeling + ";" : "hates 0 1 " + -feeling + ";";
    }

    private static void promise9Laws() {
        int[] told = {-60, -3, -2, -1, 0, 1, 2, 3, 60};
        int[][] then = {
            {-60, -3, -2, -1, 0, 1, 2, 3, 60},
            {-59, -2, -1, 0, 0, 0, 1, 2, 59},
            {-30, -1, -1, 0, 0, 0, 1, 1, 30},
            {-59, -2, -1, 0, 0, 1, 2, 3, 60}};
        for (int law = 0; law < 4; law++) {
            for (int i = 0; i < told.length; i++) {
                // odds of ten: feels() knows of no thaw
                EnemyLetters x = Due.land("land years 2 law " + law + " odds 10;" + TWO + bond(told[i]));
                Due.due(9, "law " + law + ", " + told[i] + " in year 0", x.feels(0, 1, 0), told[i]);
                Due.due(9, "law " + law + ", " + told[i] + " in year 1", x.feels(0, 1, 1), then[law][i]);
                Due.due(9, "law " + law + ", " + told[i] + ": the other one feels nothing", x.feels(1, 0, 1), 0);
            }
        }
        Due.due(9, "law 2, 60 in year 6", Due.land("land years 12 law 2 odds 0;" + TWO + bond(60)).feels(0, 1, 6), 0);
        Due.due(9, "law 2, -60 in year 5", Due.land("land years 12 law 2 odds 0;" + TWO + bond(-60)).feels(0, 1, 5), -1);
        Due.due(9, "law 1, 12 in year 11", Due.land("land years 12 law 1 odds 0;" + TWO + bond(12)).feels(0, 1, 11), 1);
        Due.due(9, "law 1, 11 in year 11", Due.land("land years 12 law 1 odds 0;" + TWO + bond(11)).feels(0, 1, 11), 0);
        Due.due(9, "law 3, -12 in year 11", Due.land("land years 12 law 3 odds 0;" + TWO + bond(-12)).feels(0, 1, 11), -1);
    }

    private static void promise9Wrongs() {
        String start = ONE + TWO;
        Due.due(9, "-59 less 1", Due.land(start + bond(-59) + "wrong 1 0 1 at 0;").feels(0, 1, 0), -60);
        Due.due(9, "-59 less 2: -60 at least", Due.land(start + bond(-59) + "wrong 1 0 2 at 0;").feels(0, 1, 0), -60);
        Due.due(9, "-60 less 40: -60 at least", Due.land(start + bond(-60) + "wrong 1 0 40 at 0;").feels(0, 1, 0), -60);
        Due.due(9, "1 less 1", Due.land(start + bond(1) + "wrong 1 0 1 at 0;").feels(0, 1, 0), 0);
        Due.due(9, "60 less 40 less 40", Due.land(start + bond(60) + "wrong 1 0 40 at 0;".repeat(2)).feels(0, 1, 0), -20);
        EnemyLetters x = Due.land("land years 2 law 1 odds 0;" + TWO + bond(-60) + "wrong 1 0 40 at 0;");
        Due.due(9, "from -60 on, not from below", x.feels(0, 1, 1), -59);
        x = Due.land(start + bond(-50) + "wrong 1 0 40 at 0;wrong 1 0 40 at 0;");
        Due.due(9, "amends behind both wrongs", x.amends(1, 0, 0), 0);
        Due.due(9, "a wrong behind amends", x.wrongs(1, 0, 5, 0), -5);
        Due.due(9, "amends of the other one: nothing to him", x.amends(0, 1, 0), 0);
        Due.due(9, "and nothing to her", x.feels(0, 1, 0), -5);
        x = Due.land(start + bond(1));
        Due.due(9, "amends to one who likes", x.amends(1, 0, 0), 1);
        x = Due.land(start + bond(-1));
        Due.due(9, "amends to one who hates by 1", x.amends(1, 0, 0), 0);
        x = Due.land(start + bond(-1));
        Due.due(9, "amends to one who feels 0", x.amends(0, 1, 0), 0);
    }

    private static void promise9Years() {
        EnemyLetters x = Due.land("land years 3 law 2 odds 0;" + TWO + bond(-10)
            + "wrong 1 0 3 at 1;wrong 1 0 40 at 3;wrong 1 0 1 at 2;wrong 1 0 40 at 11;");
        Due.due(9, "ahead of a wrong", x.feels(0, 1, 0), -10);
        Due.due(9, "first half of it, then the wrong", x.feels(0, 1, 1), -8);
        Due.due(9, "the last year's wrong is done", x.feels(0, 1, 2), -5);
        Due.due(9, "there is no year behind it", x.feels(0, 1, 3), -1000);
        Due.due(9, "nor one ahead", x.feels(0, 1, -1), -1000);
        EnemyLetters y = Due.land("land years 12 law 0 odds 0;" + TWO + "wrong 1 0 7 at 11;");
        Due.due(9, "ahead of the last of twelve", y.feels(0, 1, 10), 0);
        Due.due(9, "the last of twelve", y.feels(0, 1, 11), -7);
        Due.due(9, "beyond the twelfth", y.feels(0, 1, 12), -1000);
    }

    private static void promises10To15OneIsNotZero() {
        EnemyLetters x = Due.land(EDGES);
        Due.due(10, "enemies(0, 0): -1 hates, 0 does not", x.enemies(0, 0), 18);
        Due.due(11, "friends(0, 0): 1 likes, 0 does not", x.friends(0, 0), 40);
        Due.due(12, "hate(0, 0): likes are not taken off", x.hate(0, 0), 61);
        Due.due(13, "worst(0, 0)", x.worst(0, 0), 4);
        Due.due(14, "mild(0, 0): he himself is no other one", x.mild(0, 0), 1);
        Due.due(14, "mild(1, 0): all others", x.mild(1, 0), 5);
        Due.due(15, "bitter(0): -1 hates, 0 and 1 do not", x.bitter(0), 18);
        Due.due(15, "bitter(0): one who hates two is one", Due.land(ONE + SIX + "hates 3 0 1;hates 3 1 1;").bitter(0), 8);
        Due.due(17, "dearest(0, 0)", x.dearest(0, 0), 5);
        Due.due(18, "foe(1, 0): by 1", x.foe(1, 0), 0);
        Due.due(18, "foe(2, 0): by 0 is nobody", x.foe(2, 0), -1);
        Due.due(18, "foe(3, 0): by a like is nobody", x.foe(3, 0), -1);
        EnemyLetters one = Due.land(ONE + TWO + "hates 1 0 1;likes 0 1 1;");
        Due.due(13, "worst(0, 0) by 1", one.worst(0, 0), 1);
        Due.due(13, "worst(1, 0) by nobody", one.worst(1, 0), -1);
        Due.due(17, "dearest(1, 0) by 1", one.dearest(1, 0), 0);
        Due.due(17, "dearest(0, 0) by nobody", one.dearest(0, 0), -1);
        Due.due(12, "hate(1, 0) of a like", one.hate(1, 0), 0);
    }

    private static void promises10To18FirstOfSeveral() {
        EnemyLetters x = Due.land(ONE + SIX + "hates 5 0 4;hates 3 0 4;hates 1 0 3;likes 4 2 9;likes 1 2 9;likes 0 2 8;"
            + "hates 4 5 6;hates 4 3 6;hates 4 0 5;");
        Due.due(13, "worst(0, 0): 4 hates by 5, 3 and 5 by 4", x.worst(0, 0), 4);
        Due.due(13, "worst(0, 0), the first of several", Due.land(ONE + SIX + "hates 5 0 4;hates 3 0 4;hates 1 0 3;")
            .worst(0, 0), 3);
        Due.due(17, "dearest(2, 0), the first of several", x.dearest(2, 0), 1);
        Due.due(18, "foe(4, 0), the first of several", x.foe(4, 0), 3);
        Due.due(13, "worst(.., 0), the last alone", Due.land(ONE + SIX + "hates 5 0 1;").worst(0, 0), 5);
        Due.due(17, "dearest(.., 0), the last alone", Due.land(ONE + SIX + "likes 5 0 1;").dearest(0, 0), 5);
        Due.due(18, "foe(.., 0), the last alone", Due.land(ONE + SIX + "hates 0 5 1;").foe(0, 0), 5);
    }

    /** A land of one person, and one of none: nobody to feel anything. */
    private static void promises10To33Least() {
        EnemyLetters x = Due.land(ONE + "person 0;post at 0 0;post at 0;post at 1;");
        Due.due(10, "enemies of one alone", x.enemies(0, 0), 0);
        Due.due(11, "friends of one alone", x.friends(0, 0), 0);
        Due.due(12, "hate of one alone", x.hate(0, 0), 0);
        Due.due(13, "worst of one alone", x.worst(0, 0), -1);
        Due.due(14, "mild of one alone", x.mild(0, 0), 0);
        Due.due(15, "bitter of one alone", x.bitter(0), 0);
        Due.due(16, "praise of one alone", x.praise(0), 0);
        Due.due(17, "dearest of one alone", x.dearest(0, 0), -1);
        Due.due(18, "foe of one alone", x.foe(0, 0), -1);
        Due.due(19, "steady of one alone", x.steady(0, 0), -2);
        Due.due(20, "cold of one alone", x.cold(0), 0);
        Due.due(23, "all of one alone", x.all(0), 0);
        Due.due(30, "hated of one alone", x.hated(0), -1);
        Due.due(31, "porter of one alone", x.porter(0), 0);
        Due.due(32, "mutual of one alone", x.mutual(0), 0);
        Due.due(33, "rings of one alone", x.rings(0), 0);
        EnemyLetters none = Due.land(ONE);
        Due.due(15, "bitter of none", none.bitter(0), 0);
        Due.due(20, "cold of none", none.cold(0), 0);
        Due.due(23, "all of none", none.all(0), 0);
        Due.due(30, "hated of none", none.hated(0), -1);
        Due.due(31, "porter of none", none.porter(0), -1);
        Due.due(32, "mutual of none", none.mutual(0), 0);
        Due.due(33, "rings of none", none.rings(0), 0);
        Due.due(10, "enemies(0, 0) of none", none.enemies(0, 0), -2);
    }

    private static void promise16Praise() {
        EnemyLetters x = Due.land("land years 2 law 0 odds 0;person 0 1;person;person;hates 1 0 5;hates 2 0 7;"
            + "post at 0 0;post at 1 0 1;post at 1;post at 2 0;post at 0 2;");
        Due.due(16, "praise(0): 7 and 12 and 0; none of no year, none for what he can't", x.praise(0), 19);
        Due.due(16, "praise(1): the word 0 alone", x.praise(1), 0);
        Due.due(16, "praise(0) of no posts", Due.land(ONE + "person;").praise(0), 0);
        EnemyLetters most = Due.land(ONE + "person 0 1 2 3 4;" + "person;".repeat(5)
            + "hates 1 0 60;hates 2 0 60;hates 3 0 60;hates 4 0 60;hates 5 0 60;" + "post at 0 0 1 2 3 4;".repeat(5));
        Due.due(16, "praise(0), the greatest", most.praise(0), 1500);
    }

    private static void promise19Steady() {
        Due.due(19, "steady of one year", Due.land(ONE + TWO).steady(0, 1), 0);
        Due.due(19, "steady of twelve", Due.land("land years 12 law 0 odds 0;" + TWO + bond(-7)).steady(0, 1), 11);
        Due.due(19, "steady once it is 0", Due.land("land years 5 law 1 odds 0;" + TWO + bond(3)).steady(0, 1), 1);
        Due.due(19, "steady: as much more as it faded",
            Due.land("land years 2 law 1 odds 0;" + TWO + bond(-1) + "wrong 1 0 1 at 1;").steady(0, 1), 1);
        Due.due(19, "steady: a wrong in year 0 is not seen",
            Due.land("land years 2 law 0 odds 0;" + TWO + "wrong 1 0 1 at 0;").steady(0, 1), 1);
        Due.due(19, "steady: a wrong in the last year is",
            Due.land("land years 2 law 0 odds 0;" + TWO + "wrong 1 0 1 at 1;").steady(0, 1), 0);
        Due.due(19, "steady at -60", Due.land("land years 2 law 0 odds 0;" + TWO + bond(-60) + "wrong 1 0 9 at 1;")
            .steady(0, 1), 1);
    }

    private static void promise20Cold() {
        Due.due(20, "cold of two", Due.land(ONE + TWO).cold(0), 1);
        Due.due(20, "cold: one likes by 1", Due.land(ONE + TWO + "likes 0 1 1;").cold(0), 0);
        Due.due(20, "cold: the other one hates by 1", Due.land(ONE + TWO + "hates 1 0 1;").cold(0), 0);
        Due.due(20, "cold of six", Due.land(ONE + SIX).cold(0), 15);
        Due.due(20, "cold of six but one pair", Due.land(ONE + SIX + "likes 5 4 1;").cold(0), 14);
        EnemyLetters x = Due.land("land years 2 law 1 odds 0;" + TWO + "likes 0 1 1;hates 1 0 1;");
        Due.due(20, "cold, faded in the last year", 10 * x.cold(0) + x.cold(1), 1);
    }

    private static void promises21And22Wrongs() {
        EnemyLetters x = Due.land("land years 3 law 0 odds 0;" + TWO
            + "wrong 0 1 1 at 0;wrong 0 1 2 at 2;wrong 0 1 4 at 3;wrong 0 1 8 at 11;");
        Due.due(21, "harms(0): the last year's, none beyond", x.harms(0), 3);
        Due.due(22, "hurts(1): the last year's, none beyond", x.hurts(1), 3);
        Due.due(21, "harms(1): none", x.harms(1), 0);
        Due.due(22, "hurts(0): none", x.hurts(0), 0);
        EnemyLetters most = Due.land(ONE + TWO + "wrong 0 1 40 at 0;".repeat(8));
        Due.due(21, "harms(0) of eight told", most.harms(0), 320);
        for (int i = 0; i < 30; i++) {
            most.wrongs(0, 1, 40, 0);
        }
        Due.due(21, "harms(0), the greatest, though -60 is the least", most.harms(0), 1520);
        Due.due(22, "hurts(1), the greatest", most.hurts(1), 1520);
        most.undo();
        most.amends(0, 1, 0);
        Due.due(21, "harms(0): amends take nothing off", most.harms(0), 1480);
        Due.due(22, "hurts(1): amends take nothing off", most.hurts(1), 1480);
        most.anew();
        Due.due(21, "harms(0), acts taken back", most.harms(0), 320);
        Due.due(22, "hurts(1), acts taken back", most.hurts(1), 320);
    }

    private static void promise23All() {
        EnemyLetters x = Due.land(EDGES);
        Due.due(23, "all(0): hates alone", x.all(0), 61);
        StringBuilder b = new StringBuilder(ONE + SIX);
        for (int i = 0; i < 20; i++) {
            b.append("hates ").append(i / 5).append(' ').append(i % 5 >= i / 5 ? i % 5 + 1 : i % 5).append(" 60;");
        }
        Due.due(23, "all(0) of twenty who hate most", Due.land(b.toString()).all(0), 1200);
        EnemyLetters y = Due.land("land years 2 law 1 odds 0;" + TWO + bond(-1));
        Due.due(23, "all(1), faded", 10 * y.all(0) + y.all(1), 10);
    }

    private static void promise24Top() {
        String five = ONE + "person 0 1 2 3 4 5;" + "person;".repeat(5)
            + "hates 1 0 60;hates 2 0 60;hates 3 0 60;hates 4 0 60;hates 5 0 60;";
        Due.due(24, "top, the greatest", Due.land(five + "post at 0 0 1 2 3 4;").top(0), 300);
        Due.due(24, "top of six skills: there are no six others", Due.land(five + "post at 0 0 1 2 3 4 5;").top(0), -1);
        Due.due(24, "top of no skill", Due.land(ONE + "person;post at 0;").top(0), 0);
        Due.due(24, "top of no persons", Due.land(ONE + "post at 0;").top(0), -1);
        Due.due(24, "top of no year there is", Due.land(five + "post at 1;").top(0), -1);
        EnemyLetters x = Due.land(five + "post at 0 0;post at 0 1;");
        Due.due(24, "top(1), though he has another one", x.top(1), 60);
        Due.due(24, "nobody gets it", x.gets(1), -1);
        Due.due(24, "top by a hate of 1", Due.land(ONE + "person 0;person;hates 1 0 1;post at 0 0;").top(0), 1);
    }

    private static void promise25Next() {
        EnemyLetters x = Due.land("land years 2 law 0 odds 0;person 0;person 0;person 0;person;hates 3 0 5;hates 3 1 9;"
            + "hates 3 2 5;post at 1 0;post at 0 0;post at 1 0;post at 1 0;post at 2 0;");
        Due.due(25, "next(1), the first of several", x.next(1), 0);
        Due.due(25, "next(0): 1 has got one ahead, 0 gets it", x.next(0), 2);
        Due.due(25, "next(2): all have got one", x.next(2), -1);
        Due.due(25, "next(3), that nobody gets", x.next(3), -1);
        Due.due(25, "next(4), of no year there is", x.next(4), -1);
        EnemyLetters y = Due.land(ONE + "person;person;post at 0;");
        Due.due(25, "next of the word 0", y.next(0), 1);
        Due.due(25, "next of one alone", Due.land(ONE + "person;post at 0;").next(0), -1);
        Due.due(25, "next of no persons", Due.land(ONE + "post at 0;").next(0), -1);
        EnemyLetters z = Due.land("land years 2 law 0 odds 0;person;person;post at 0;post at 1;");
        Due.due(25, "next(0): he who gets one later counts", z.next(0), 1);
        EnemyLetters w = Due.land(ONE + "person;person;post at 0;post at 0;");
        Due.due(25, "next(0): he who gets one of the same year later counts", w.next(0), 1);
        Due.due(25, "next(1): he who got one of the same year ahead does not", w.next(1), -1);
    }

    private static void promise26First() {
        Due.due(26, "first() without a land", new EnemyLetters().first(), -2);
        Due.due(26, "first() of no posts", Due.land(ONE + "person;").first(), -1);
        Due.due(26, "first() of no persons", Due.land(ONE + "post at 0;").first(), -1);
        Due.due(26, "first() in year 0", Due.land(ONE + "person;post at 0;").first(), 0);
        Due.due(26, "first() in the last year", Due.land("land years 12 law 0 odds 0;person;post at 11;").first(), 11);
        Due.due(26, "first() of no year there is", Due.land("land years 11 law 0 odds 0;person;post at 11;").first(), -1);
        Due.due(26, "first(): a post for nobody is none",
            Due.land("land years 3 law 0 odds 0;person;post at 0 0;post at 2;post at 1;").first(), 1);
    }

    private static void promises27To29OneByOne() {
        EnemyLetters x = Due.land("land years 12 law 0 odds 0;" + TWO + "likes 0 1 1;wrong 1 0 1 at 5;wrong 1 0 1 at 11;"
            + "hates 1 0 1;");
        Due.due(27, "sours(0, 1): 0 is no hate yet, the last year", x.sours(0, 1), 11);
        Due.due(28, "years(0, 1): the last alone", x.years(0, 1), 1);
        Due.due(29, "lowest(0, 1): of the last", x.lowest(0, 1), -1);
        Due.due(27, "sours(1, 0): from the first on", x.sours(1, 0), 0);
        Due.due(28, "years(1, 0): all", x.years(1, 0), 12);
        Due.due(29, "lowest(1, 0)", x.lowest(1, 0), -1);
        x.amends(0, 1, 0);
        Due.due(27, "sours(1, 0), mended in year 0: not at the time of posts", x.sours(1, 0), -1);
        Due.due(28, "years(1, 0), mended", x.years(1, 0), 0);
        EnemyLetters y = Due.land("land years 3 law 1 odds 0;" + TWO + bond(60) + "hates 1 0 60;wrong 0 1 40 at 1;");
        Due.due(27, "sours(0, 1): none", y.sours(0, 1), -1);
        Due.due(28, "years(0, 1): none", y.years(0, 1), 0);
        Due.due(29, "lowest(0, 1) is a like of the last year", y.lowest(0, 1), 58);
        Due.due(29, "lowest(1, 0), the least there is", y.lowest(1, 0), -60);
        Due.due(29, "lowest of one year", Due.land(ONE + TWO + bond(60)).lowest(0, 1), 60);
        Due.due(29, "lowest in year 0 alone", Due.land("land years 3 law 2 odds 0;" + TWO + bond(-9)).lowest(0, 1), -9);
        Due.due(29, "lowest in year 1 alone", Due.land("land years 3 law 2 odds 0;" + TWO + "wrong 1 0 9 at 1;").lowest(0, 1), -9);
        Due.due(28, "years(0, 1): -1 fades to 0", Due.land("land years 3 law 1 odds 0;" + TWO + bond(-2)).years(0, 1), 2);
    }

    private static void promise30Hated() {
        Due.due(30, "hated by 1", Due.land(ONE + TWO + bond(-1)).hated(0), 1);
        Due.due(30, "hated: 0 is not above 0", Due.land(ONE + TWO).hated(0), -1);
        Due.due(30, "hated: likes are not taken off", Due.land(ONE + "person;person;person;hates 0 1 5;likes 2 1 60;hates 1 2 4;")
            .hated(0), 1);
        Due.due(30, "hated, the first of several: 3 and 2 are 5", Due.land(ONE + "person;person;person;person;hates 0 3 5;"
            + "hates 0 1 3;hates 2 1 2;").hated(0), 1);
        Due.due(30, "hated, the first person", Due.land(ONE + SIX + "hates 5 0 2;hates 0 5 1;").hated(0), 0);
        Due.due(30, "hated, the last", Due.land(ONE + SIX + "hates 0 5 2;hates 5 0 1;").hated(0), 5);
    }

    private static void promise31Porter() {
        Due.due(31, "porter: nobody is liked, the first", Due.land(ONE + TWO).porter(0), 0);
        Due.due(31, "porter: a hate of 1 is one too many", Due.land(ONE + TWO + "hates 1 0 1;").porter(0), 1);
        Due.due(31, "porter: all are hated", Due.land(ONE + TWO + "hates 1 0 1;hates 0 1 1;").porter(0), -1);
        Due.due(31, "porter: two who like by 1 are more than one by 60",
            Due.land(ONE + SIX + "likes 0 3 60;likes 0 5 1;likes 1 5 1;").porter(0), 5);
        Due.due(31, "porter, the first of several", Due.land(ONE + SIX + "likes 0 3 1;likes 0 2 1;").porter(0), 2);
        Due.due(31, "porter: liked by all others", Due.land(ONE + "person;person;person;likes 0 2 1;likes 1 2 1;likes 0 1 1;")
            .porter(0), 2);
        Due.due(31, "porter: liked by two, but hated", Due.land(ONE + SIX + "likes 0 3 1;likes 1 3 1;hates 2 3 1;likes 0 4 1;")
            .porter(0), 4);
    }

    private static final class AllHate {
        final EnemyLetters x;

        /** 28 of the 30 ways are told (20 hates, 8 wrongs); 5 towards 3 and 4 are not. */
        AllHate() {
            StringBuilder b = new StringBuilder(ONE + SIX);
            int told = 0;
            for (int p = 0; p < 6; p++) {
                for (int o = 0; o < 6; o++) {
                    if (p != o && told < 28) {
                        b.append(told < 20 ? "hates " + p + " " + o + " 1;" : "wrong " + o + " " + p + " 1 at 0;");
                        told++;
                    }
                }
            }
            x = Due.land(b.toString());
        }
    }

    private static void promises32And33All() {
        EnemyLetters x = new AllHate().x;
        Due.due(32, "mutual: all pairs but two", x.mutual(0), 13);
        Due.due(33, "rings: all threes but 3, 4, 5", x.rings(0), 19);
        x.wrongs(3, 5, 1, 0);
        Due.due(32, "mutual: all but one", x.mutual(0), 14);
        Due.due(33, "rings: one way round is enough", x.rings(0), 20);
        x.wrongs(4, 5, 1, 0);
        Due.due(32, "mutual: all pairs", x.mutual(0), 15);
        Due.due(33, "rings: all threes, both ways round once", x.rings(0), 20);
        for (int p = 0; p < 6; p++) {
            Due.due(10, "enemies(" + p + ", 0): all others", x.enemies(p, 0), 63 - (1 << p));
            Due.due(14, "mild(" + p + ", 0): nobody", x.mild(p, 0), 0);
        }
        Due.due(15, "bitter(0): all", x.bitter(0), 63);
        Due.due(31, "porter(0): none", x.porter(0), -1);
        Due.due(20, "cold(0): none", x.cold(0), 0);
        Due.due(23, "all(0)", x.all(0), 30);
    }

    private static void promises32And33Some() {
        Due.due(32, "mutual: one way alone", Due.land(ONE + TWO + "hates 0 1 1;").mutual(0), 0);
        Due.due(32, "mutual: both", Due.land(ONE + TWO + "hates 0 1 1;hates 1 0 1;").mutual(0), 1);
        Due.due(32, "mutual: a like", Due.land(ONE + TWO + "hates 0 1 1;likes 1 0 1;").mutual(0), 0);
        Due.due(33, "rings of two", Due.land(ONE + TWO + "hates 0 1 1;hates 1 0 1;").rings(0), 0);
        String three = ONE + "person;person;person;";
        Due.due(33, "rings: 0, 1, 2", Due.land(three + "hates 0 1 1;hates 1 2 1;hates 2 0 1;").rings(0), 1);
        Due.due(33, "rings: 2, 1, 0", Due.land(three + "hates 1 0 1;hates 2 1 1;hates 0 2 1;").rings(0), 1);
        Due.due(33, "rings: not closed", Due.land(three + "hates 0 1 1;hates 1 2 1;hates 0 2 1;").rings(0), 0);
        Due.due(33, "rings: two pairs are none",
            Due.land(three + "hates 0 1 1;hates 1 0 1;hates 1 2 1;hates 2 1 1;").rings(0), 0);
        String[][] rounds = {{"0 1", "1 2", "2 0"}, {"1 0", "0 2", "2 1"}};
        for (String[] round : rounds) {
            for (int open = 0; open < 3; open++) {
                String rest = three + "hates " + round[(open + 1) % 3] + " 1;hates " + round[(open + 2) % 3] + " 1;";
                Due.due(33, "rings: closed by 0 is none, " + round[open], Due.land(rest).rings(0), 0);
                Due.due(33, "rings: closed by a like is none", Due.land(rest + "likes " + round[open] + " 1;").rings(0), 0);
                Due.due(33, "rings: closed by 1", Due.land(rest + "hates " + round[open] + " 1;").rings(0), 1);
            }
        }
        EnemyLetters x = Due.land("land years 2 law 1 odds 0;person;person;person;hates 0 1 2;hates 1 2 2;hates 2 0 1;"
            + "hates 1 0 2;");
        Due.due(33, "rings, in year 1 no more", 10 * x.rings(0) + x.rings(1), 10);
        Due.due(32, "mutual, in year 1 still", 10 * x.mutual(0) + x.mutual(1), 11);
    }

    private static void questionsChangeNothing() {
        EnemyLetters x = Due.busy();
        long first = x.chance(0, 0, 0) + x.luck(3, 20, 0, 1) + x.share(0, 0, 1, 0) + x.rests(0, 1) + x.spare() + x.law()
            + x.target(2, 1) + x.learns(2, 1) + x.fits(0, 2) + x.laws(0) + x.best() + x.drawn(9, 0);
        Due.due(9, "questions were asked", first > -100 ? 1 : 0, 1);
        Due.due(9, "behind questions all is as without them", Due.same(Due.all(x), Due.all(Due.busy())), 1);
    }
}
