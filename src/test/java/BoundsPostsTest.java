/** Promises 34 to 59 and terms III to VII: each sentence that names a bound, by answers that were made by hand. */
public final class BoundsPostsTest {
    private static final String ONE = "land years 1 law 0 odds 0;";
    private static final String SIX = "person;".repeat(6);

    /** 0 can do all, and 1 .. 5 hate him by 10 .. 50. */
    private static final String FIVE = ONE + "person 0 1 2 3 4 5;" + "person;".repeat(5)
        + "hates 1 0 10;hates 2 0 20;hates 3 0 30;hates 4 0 40;hates 5 0 50;";

    /** A post for each of skills 0 .. 4, and 0, whom 1 hates: what he gets is all that is given. */
    private static final String EACH = ONE + "person;person;hates 1 0 5;post at 0 0;post at 0 1;post at 0 2;post at 0 3;post at 0 4;";

    public static void main(String[] args) {
        promises34And35HowManyLetters();
        promises34And35Years();
        promise35FirstOfSeveral();
        promise36Gets();
        promises37To43Posts();
        promise39Edge();
        promise40Writes();
        promise44Lacks();
        promise45Least();
        promise45NotByMore();
        promise46Target();
        promise47Learns();
        promises48To50Rows();
        promises51And52Laws();
        promise53Spare();
        promises54To58Skills();
        promises54To58Numbers();
        promises54To58Refused();
        promise57FirstOfSeveral();
        promise57LastOfAll();
        promise59Laws();
        Due.finish(34, 59);
    }

    private static void promises34And35HowManyLetters() {
        int[] words = {0, 50, 90, 120, 140, 150, -1};
        int[] pens = {0, 32, 48, 56, 60, 62, -1};
        String skills = "";
        for (int n = 0; n <= 6; n++) {
            EnemyLetters x = Due.land(FIVE + "post at 0" + skills + ";");
            Due.due(34, "word(0, 0) of " + n + " letters", x.word(0, 0), words[n]);
            Due.due(35, "pens(0, 0) of " + n + " letters", x.pens(0, 0), pens[n]);
            Due.due(34, "word(1, 0), who can do nothing", x.word(1, 0), n == 0 ? 0 : -1);
            Due.due(35, "pens(1, 0), who can do nothing", x.pens(1, 0), n == 0 ? 0 : -1);
            skills += " " + n;
        }
        String two = ONE + "person 0 1;person;person;hates 1 0 1;";
        Due.due(34, "one who hates for two: there are not so many", Due.land(two + "post at 0 0 1;").word(0, 0), -1);
        Due.due(35, "one who hates for two: there are not so many", Due.land(two + "post at 0 0 1;").pens(0, 0), -1);
        Due.due(34, "two for two", Due.land(two + "hates 2 0 1;post at 0 0 1;").word(0, 0), 2);
        Due.due(35, "two for two", Due.land(two + "hates 2 0 1;post at 0 0 1;").pens(0, 0), 6);
        Due.due(34, "one who likes does not write", Due.land(two + "likes 2 0 1;post at 0 0 1;").word(0, 0), -1);
        Due.due(34, "he lacks one of two", Due.land(ONE + "person 0;person;person;hates 1 0 1;hates 2 0 1;post at 0 0 1;")
            .word(0, 0), -1);
        Due.due(34, "he can do more than it needs", Due.land(two + "post at 0 1;").word(0, 0), 1);
        Due.due(34, "none is needed, nobody hates", Due.land(ONE + "person;post at 0;").word(0, 0), 0);
    }

    private static void promises34And35Years() {
        EnemyLetters x = Due.land("land years 3 law 1 odds 0;person 0;person;hates 1 0 3;post at 0 0;post at 2 0;post at 3 0;"
            + "post at 11;post at 2;");
        int[] words = {3, 1, -1, -1, 0};
        int[] pens = {2, 2, -1, -1, 0};
        for (int q = 0; q < 5; q++) {
            Due.due(34, "word(0, " + q + ")", x.word(0, q), words[q]);
            Due.due(35, "pens(0, " + q + ")", x.pens(0, q), pens[q]);
        }
        x.amends(0, 1, 2);
        Due.due(34, "word(0, 1): a hate of 0 is none", x.word(0, 1), -1);
        Due.due(34, "word(0, 0) as before", x.word(0, 0), 3);
    }

    private static void promise35FirstOfSeveral() {
        String tie = ONE + "person 0 1 2;" + "person;".repeat(5) + "hates 5 0 4;hates 4 0 4;hates 2 0 4;hates 1 0 3;";
        Due.due(35, "one of three who hate as much: the first", Due.land(tie + "post at 0 0;").pens(0, 0), 4);
        Due.due(35, "two of three: the first two", Due.land(tie + "post at 0 0 1;").pens(0, 0), 20);
        Due.due(35, "three of three", Due.land(tie + "post at 0 0 1 2;").pens(0, 0), 52);
        Due.due(35, "for the last person: the first", Due.land(ONE + "person;person;person 5;hates 1 2 7;hates 0 2 7;post at 0 5;")
            .pens(2, 0), 1);
    }

    private static void promise36Gets() {
        String three = ONE + "person 0;person 0;person 0;person;";
        Due.due(36, "the greatest", Due.land(three + "hates 3 0 1;hates 3 1 2;hates 3 2 1;post at 0 0;").gets(0), 1);
        Due.due(36, "the first of several", Due.land(three + "hates 3 0 1;hates 3 1 2;hates 3 2 2;post at 0 0;").gets(0), 1);
        Due.due(36, "the last", Due.land(three + "hates 3 2 1;post at 0 0;").gets(0), 2);
        Due.due(36, "nobody has a word", Due.land(three + "post at 0 0;").gets(0), -1);
        Due.due(36, "no persons", Due.land(ONE + "post at 0;").gets(0), -1);
        EnemyLetters x = Due.land("land years 2 law 0 odds 0;person;person;post at 1;post at 1;post at 0;post at 2;");
        int[] want = {1, -1, 0, -1};
        for (int q = 0; q < 4; q++) {
            Due.due(36, "gets(" + q + "): by years, of one by numbers; two persons for three", x.gets(q), want[q]);
        }
        EnemyLetters y = Due.land("land years 12 law 0 odds 0;person;post at 11;");
        Due.due(36, "of the last year there can be", y.gets(0), 0);
    }

    private static void promises37To43Posts() {
        EnemyLetters x = Due.land(ONE + SIX + "post at 0;".repeat(5));
        for (int p = 0; p < 6; p++) {
            Due.due(37, "has(" + p + ")", x.has(p), p < 5 ? p : -1);
            Due.due(43, "hopes(" + p + "): all five", x.hopes(p), 31);
        }
        for (int q = 0; q < 5; q++) {
            Due.due(38, "may(" + q + "): all six", x.may(q), 63);
        }
        Due.due(41, "given(): all five", x.given(), 31);
        Due.due(42, "idle(): the sixth", x.idle(), 32);
        EnemyLetters none = Due.land(ONE + SIX + "post at 0 0;post at 1;");
        Due.due(37, "has(0): none", none.has(0), -1);
        Due.due(38, "may(0): nobody", none.may(0), 0);
        Due.due(38, "may(1): of no year there is", none.may(1), 0);
        Due.due(41, "given(): none", none.given(), 0);
        Due.due(42, "idle(): all six", none.idle(), 63);
        Due.due(43, "hopes(5): none", none.hopes(5), 0);
        EnemyLetters empty = Due.land(ONE);
        Due.due(41, "given() of no posts", empty.given(), 0);
        Due.due(42, "idle() of no persons", empty.idle(), 0);
        Due.due(41, "given() without a land", new EnemyLetters().given(), -2);
        Due.due(42, "idle() without a land", new EnemyLetters().idle(), -2);
        Due.due(42, "idle(): nobody", Due.land(ONE + "person;post at 0;").idle(), 0);
    }

    private static void promise39Edge() {
        String three = ONE + "person 0;person 0;person 0;person;";
        Due.due(39, "edge: nobody gets it", Due.land(three + "post at 0 0;").edge(0), -1);
        Due.due(39, "edge: no other one has a word", Due.land(three + "hates 3 0 9;post at 0 0;").edge(0), -1);
        Due.due(39, "edge: of as much", Due.land(three + "hates 3 0 9;hates 3 1 9;post at 0 0;").edge(0), 0);
        Due.due(39, "edge: by 1", Due.land(three + "hates 3 0 9;hates 3 1 8;hates 3 2 7;post at 0 0;").edge(0), 1);
        Due.due(39, "edge: the greatest of one letter", Due.land(three + "hates 3 2 60;hates 3 1 1;post at 0 0;").edge(0), 59);
        EnemyLetters x = Due.land(three + "hates 3 0 9;hates 3 1 8;hates 3 2 5;post at 0 0;post at 0 0;post at 0 0;");
        Due.due(39, "edge(0): he who gets one later counts", x.edge(0), 1);
        Due.due(39, "edge(1): he who has got one ahead does not", x.edge(1), 3);
        Due.due(39, "edge(2): the others have got one ahead", x.edge(2), -1);
        Due.due(39, "edge, of no year there is", Due.land(ONE + "person;person;post at 1;").edge(0), -1);
        Due.due(39, "edge of the word 0", Due.land(ONE + "person;person;post at 0;").edge(0), 0);
    }

    private static void promise40Writes() {
        StringBuilder b = new StringBuilder(ONE + "person 0;".repeat(5) + "person;");
        for (int p = 0; p < 5; p++) {
            b.append("hates 5 ").append(p).append(" 3;");
        }
        EnemyLetters x = Due.land(b + "post at 0 0;".repeat(5));
        Due.due(40, "writes(5): for all five", x.writes(5), 5);
        Due.due(40, "writes(0): for nobody", x.writes(0), 0);
        Due.due(40, "writes of posts that need none", Due.land(ONE + "person;person;hates 1 0 3;post at 0;").writes(1), 0);
        Due.due(40, "writes for one who does not get it",
            Due.land(ONE + "person 0;person 0;person;person;hates 2 0 3;hates 3 1 2;post at 0 0;").writes(3), 0);
        Due.due(40, "writes of no posts", Due.land(ONE + SIX).writes(5), 0);
    }

    private static void promise44Lacks() {
        EnemyLetters x = Due.land(ONE + "person;person 0 1 2 3 4 5;person 0 5;post at 0 0 1 2 3 4 5;post at 0;post at 11 5 1;");
        int[][] want = {{63, 0, 34}, {0, 0, 0}, {30, 0, 2}};
        for (int p = 0; p < 3; p++) {
            for (int q = 0; q < 3; q++) {
                Due.due(44, "lacks(" + p + ", " + q + ")", x.lacks(p, q), want[p][q]);
            }
        }
    }

    private static void promise45Least() {
        Due.due(45, "least 0: none is done", Due.land(ONE + "person;person;post at 0;").least(0, 1, 0), 0);
        String two = "person 0;person 0;person;";
        Due.due(45, "least 1", Due.land(ONE + two + "post at 0 0;").least(0, 1, 0), 1);
        Due.due(45, "least 61, from a like of 60", Due.land(ONE + two + "likes 1 0 60;post at 0 0;").least(0, 1, 0), 61);
        Due.due(45, "least 119: 59 are enough for the first", Due.land(ONE + two + "likes 2 0 60;hates 2 1 59;post at 0 0;")
            .least(0, 2, 0), 119);
        Due.due(45, "least 120: 60 are", Due.land(ONE + two + "likes 2 0 60;hates 2 1 60;post at 0 0;").least(0, 2, 0), 120);
        Due.due(45, "least 120: above 59 for the other one", Due.land(ONE + two + "likes 2 1 60;hates 2 0 59;post at 0 0;")
            .least(1, 2, 0), 120);
        Due.due(45, "by none: above 60 there is nothing", Due.land(ONE + two + "likes 2 1 60;hates 2 0 60;post at 0 0;")
            .least(1, 2, 0), -1);
        Due.due(45, "by none: from 0, too", Due.land(ONE + two + "hates 2 0 60;post at 0 0;").least(1, 2, 0), -1);
        Due.due(45, "by none: he can't", Due.land(ONE + two + "post at 0 0;").least(2, 0, 0), -1);
        Due.due(45, "by none: it needs two", Due.land(ONE + "person 0 1;person;person;post at 0 0 1;").least(0, 1, 0), -1);
        Due.due(45, "by none: of no year there is", Due.land(ONE + "person;person;post at 1;").least(0, 1, 0), -1);
        for (int law = 0; law < 4; law++) {
            EnemyLetters x = Due.land("land years 3 law " + law + " odds 0;" + two + "post at 2 0;");
            Due.due(45, "in year 0, for a post of year 2, by law " + law, x.least(0, 1, 0), new int[] {1, 3, 4, 3}[law]);
        }
        EnemyLetters y = Due.land(ONE + two + "hates 2 1 9;hates 2 0 20;wrong 0 2 5 at 0;post at 0 0;");
        Due.due(45, "behind told wrongs: none more", y.least(0, 2, 0), 0);
        y.amends(0, 2, 0);
        Due.due(45, "behind amends", y.least(0, 2, 0), 9);
        y.wrongs(0, 2, 4, 0);
        Due.due(45, "behind a wrong behind amends", y.least(0, 2, 0), 5);
        Due.due(45, "nothing is done by asking", y.feels(2, 0, 0), -4);
        Due.due(45, "nor counted as an act", y.count(7), 2);
    }

    private static void promise45NotByMore() {
        // with a hate of 4 or more he gets post 0, and post 1 no more
        EnemyLetters x = Due.land("land years 2 law 1 odds 0;person 0;person 0;person;hates 2 1 4;post at 0 0;post at 1 0;");
        Due.due(45, "by a little, not by more", x.least(0, 2, 1), 2);
        Due.due(45, "by more", x.least(0, 2, 0), 4);
        EnemyLetters y = Due.land("land years 2 law 1 odds 0;person 0;person 0;person;hates 2 1 1;post at 0 0;post at 1 0;");
        Due.due(45, "what is enough for post 1 is too much for post 0", y.least(0, 2, 1), -1);
    }

    private static void promise46Target() {
        String three = ONE + "person 0;person;person;person;";
        Due.due(46, "he gets it: the first other one", Due.land(ONE + "person;person;person;post at 0;").target(0, 0), 1);
        Due.due(46, "the first of several", Due.land(three + "post at 0 0;").target(0, 0), 1);
        Due.due(46, "the least is with the last", Due.land(three + "likes 1 0 2;likes 2 0 2;likes 3 0 1;post at 0 0;").target(0, 0), 3);
        Due.due(46, "the least is with two", Due.land(three + "likes 1 0 2;likes 2 0 1;likes 3 0 1;post at 0 0;").target(0, 0), 2);
        Due.due(46, "120 is with one", Due.land(ONE + "person 0;person 0;person;hates 0 1 60;likes 1 0 60;likes 2 0 60;post at 0 0;")
            .target(0, 0), 1);
        Due.due(46, "with none: above 60 there is nothing", Due.land(ONE + "person 0;person 0;person;hates 2 0 60;post at 0 0;")
            .target(1, 0), -1);
        Due.due(46, "with none: he can't", Due.land(three + "post at 0 1;").target(0, 0), -1);
        Due.due(46, "with none: there is no other one", Due.land(ONE + "person;post at 0;").target(0, 0), -1);
        Due.due(46, "for the last, the first other one", Due.land(ONE + "person;person 0;post at 0 0;").target(1, 0), 0);
    }

    private static void promise47Learns() {
        String five = ONE + "person;" + "person;".repeat(5) + "hates 1 0 1;hates 2 0 1;hates 3 0 1;hates 4 0 1;hates 5 0 1;";
        Due.due(47, "learns five", Due.land(five + "post at 0 1 2 3 4 5;").learns(0, 0), 62);
        Due.due(47, "learns six: there are no six others", Due.land(five + "post at 0 0 1 2 3 4 5;").learns(0, 0), -1);
        Due.due(47, "learns none: he gets it", Due.land(five + "post at 0;").learns(0, 0), 0);
        Due.due(47, "learns none: it needs none, but another one is first", Due.land(five + "post at 0;").learns(1, 0), -1);
        Due.due(47, "learns one, the least", Due.land(five + "post at 0 0;").learns(0, 0), 1);
        Due.due(47, "learns one, the greatest", Due.land(five + "post at 0 5;").learns(0, 0), 32);
        Due.due(47, "learns: of no year there is", Due.land(five + "post at 1 0;").learns(0, 0), -1);
        Due.due(47, "learns what he has not alone",
            Due.land(ONE + "person 0 1 5;person;person;hates 1 0 1;hates 2 0 1;post at 0 5 3;").learns(0, 0), 8);
        Due.due(47, "he can do all, and nobody hates him", Due.land(ONE + "person 0 1 2 3 4 5;person;post at 0 0;").learns(0, 0), -1);
        EnemyLetters x = Due.land("land years 2 law 0 odds 0;person;person;hates 1 0 1;post at 0 0;post at 1 0;post at 1 0 1;");
        Due.due(47, "learns(0, 1): with it he gets post 0", x.learns(0, 1), -1);
        Due.due(47, "learns(0, 0)", x.learns(0, 0), 1);
        Due.due(47, "skills are as they were", x.skills(0), 0);
    }

    private static void promises48To50Rows() {
        EnemyLetters x = new EnemyLetters();
        Due.due(48, "best() without a land", x.best(), -2);
        Due.due(50, "ways() without a land", x.ways(), -2);
        rows(ONE, 0, 1);
        rows(ONE + SIX, 0, 1);
        rows(ONE + "post at 0;", 0, 1, -1);
        rows(ONE + "person;post at 0 0;post at 1;", 0, 1, -1, -1);
        rows(ONE + "person;post at 0;", 1, 1, 0);
        rows(ONE + SIX + "post at 0;".repeat(5), 5, 720, 0, 1, 2, 3, 4);
        rows(ONE + "person;".repeat(4) + "post at 0;".repeat(5), 4, 120, -1, 0, 1, 2, 3);
        rows(ONE + "person;".repeat(4) + "post at 0;post at 1;post at 0;", 2, 12, 0, -1, 1);
        rows(FIVE + "post at 0 0 1 2 3 4;post at 0 0;post at 0;", 152, 5, 0, -1, 1);
        // 0 has the words 3 and 5, 1 has 3 for the first alone
        rows(ONE + "person 0 1;person 0;person;person;hates 2 0 3;hates 3 0 2;hates 2 1 3;post at 0 0;post at 0 0 1;", 10, 1, 1, 0);
        Due.due(49, "put(1), asked first of all", Due.land(ONE + "person;person;post at 0;post at 0;").put(1), 1);
        Due.due(50, "ways(), asked first of all", Due.land(ONE + "person;person;post at 0;post at 0;").ways(), 2);
        EnemyLetters change = Due.land(ONE + "person 0;person;hates 1 0 5;post at 0 0;");
        Due.due(49, "put(0)", change.put(0), 0);
        Due.due(50, "ways()", change.ways(), 1);
        change.amends(0, 1, 0);
        Due.due(49, "put(0) behind an act", change.put(0), -1);
        Due.due(48, "best() behind an act", change.best(), 0);
        Due.due(48, "none is given by asking", Due.land(FIVE + "post at 0;post at 0;").given(), 3);
    }

    private static void rows(String text, int best, int ways, int... put) {
        EnemyLetters x = Due.land(text);
        Due.due(48, "best() of " + text, x.best(), best);
        Due.due(50, "ways() of " + text, x.ways(), ways);
        for (int q = 0; q < put.length; q++) {
            Due.due(49, "put(" + q + ") of " + text, x.put(q), put[q]);
        }
        Due.due(49, "put(" + put.length + ") of " + text, x.put(put.length), -2);
    }

    private static void promises51And52Laws() {
        Due.due(51, "by(0) without a land", new EnemyLetters().by(0), -2);
        Due.due(52, "law() without a land", new EnemyLetters().law(), -2);
        Due.due(52, "law() of nothing to give: the least", Due.land("land years 2 law 3 odds 0;").law(), 0);
        // by law 3 alone 1 is hated no more than 0 in year 1, and leaves post 0 to him
        EnemyLetters x = Due.land("land years 2 law 0 odds 0;person 0;person 0 1;person;person;person;hates 2 1 2;likes 4 1 3;"
            + "wrong 0 3 1 at 1;wrong 1 4 4 at 1;post at 1 0;post at 1 1;");
        for (int law = 0; law < 4; law++) {
            Due.due(51, "by(" + law + ")", x.by(law), law == 3 ? 2 : 1);
        }
        Due.due(52, "law(), the greatest", x.law(), 3);
        Due.due(51, "by(4)", x.by(4), -2);
        Due.due(51, "by(-1)", x.by(-1), -2);
        Due.due(51, "the law is as told", x.count(1), 0);
        Due.due(51, "and so is what is given", x.given(), 1);
        EnemyLetters y = Due.land("land years 2 law 1 odds 0;person 0;person;likes 1 0 2;wrong 0 1 2 at 1;post at 1 0;");
        Due.due(51, "by(1): less 1, less 2", y.by(1), 1);
        Due.due(51, "by(2): half, less 2", y.by(2), 1);
        Due.due(51, "by(3)", y.by(3), 0);
        Due.due(52, "law(), the least of several", y.law(), 1);
        Due.due(51, "by(0) of five", Due.land(ONE + SIX + "post at 0;".repeat(5)).by(0), 5);
    }

    private static void promise53Spare() {
        Due.due(53, "spare() without a land", new EnemyLetters().spare(), -2);
        Due.due(53, "spare() of no wrongs", Due.land(ONE + "person;post at 0;").spare(), -1);
        // without the wrong 0 is hated less than 1, and gets the post that 1 can't
        String keen = ONE + "person 0 1;person 0;person;hates 2 0 3;hates 2 1 4;";
        String posts = "post at 0 0;post at 0 1;";
        Due.due(53, "spare(), the first", Due.land(keen + "wrong 0 2 2 at 0;" + posts).spare(), 0);
        Due.due(53, "spare(), the eighth", Due.land(keen + "wrong 0 1 2 at 5;".repeat(7) + "wrong 0 2 2 at 0;" + posts).spare(), 7);
        Due.due(53, "spare(), the first of several",
            Due.land(ONE + "person 0 1;person 0;person;hates 2 0 2;hates 2 1 4;wrong 0 1 2 at 5;wrong 0 2 1 at 0;"
                + "wrong 0 2 1 at 0;" + posts).spare(), 1);
        Due.due(53, "spare(): without one there is still too much",
            Due.land(keen + "wrong 0 2 2 at 0;wrong 0 2 2 at 0;" + posts).spare(), -1);
        Due.due(53, "spare(): as many as now", Due.land(keen + "wrong 1 2 1 at 0;" + posts).spare(), -1);
        EnemyLetters acts = Due.land(keen + posts);
        Due.due(53, "spare(): both are given", acts.given(), 3);
        acts.wrongs(0, 2, 9, 0);
        Due.due(53, "spare(): by an act one is given", acts.given(), 1);
        Due.due(53, "spare(): acts are not told", acts.spare(), -1);
        EnemyLetters back = Due.land(keen + "wrong 0 2 9 at 0;" + posts);
        Due.due(53, "spare()", back.spare(), 0);
        back.amends(0, 2, 0);
        back.wrongs(0, 2, 9, 0);
        Due.due(53, "spare(): an act behind amends does as much", back.spare(), -1);
    }

    private static void promises54To58Skills() {
        EnemyLetters x = Due.land(EACH);
        x.row(2, 0, 0);
        sets(x, 2, 64, 0, 0, 0, 32);
        int[] surely = {0, 0, 0, 0, 0, 0};
        int[] never = {0, 1, 3, 7, 15, 31};
        for (int n = 1; n <= 5; n++) {
            x.row(2, n % 4, 2 * n);
            for (int q = 0; q < n; q++) {
                x.write(2, 2 * q, q);
                x.write(2, 2 * q + 1, -1);
            }
            sets(x, 2, 64 >> n, surely[n], never[n], n < 5 ? n : -1, n < 5 ? 32 >> n : 2);
        }
        // post 4 and nobody else: he has skill 4, none of 0 .. 3, and 5 or not
        x.write(2, 9, 0);
        sets(x, 2, 2, 16, 15, -1, 2);
        x.write(2, 9, 1);
        sets(x, 2, 0, -1, -1, -1, 0);
        EnemyLetters five = Due.land(FIVE + "post at 0 1 2 3 4 5;");
        five.row(0, 3, 2);
        Due.due(55, "surely: five of six", five.surely(0, 0), 62);
        Due.due(54, "fits: two sets", five.fits(0, 0), 2);
        Due.due(56, "never: none", five.never(0, 0), 0);
        Due.due(54, "skills are as they were", five.skills(0), 63);
        EnemyLetters none = Due.land(ONE + "person;");
        none.row(0, 0, 0);
        sets(none, 0, 64, 0, 0, -1, 64);
    }

    private static void sets(EnemyLetters x, int slot, int fits, int surely, int never, int ask, int leaves) {
        Due.due(54, "fits(" + slot + ", 0)", x.fits(slot, 0), fits);
        Due.due(55, "surely(" + slot + ", 0)", x.surely(slot, 0), surely);
        Due.due(56, "never(" + slot + ", 0)", x.never(slot, 0), never);
        Due.due(57, "ask(" + slot + ", 0)", x.ask(slot, 0), ask);
        Due.due(58, "leaves(" + slot + ", 0)", x.leaves(slot, 0), leaves);
    }

    /** Each number at its least and greatest, and one beyond, in rows of each width. */
    private static void promises54To58Numbers() {
        for (int width = 0; width < 4; width++) {
            int[][] pairs = {{0, -1, 0}, {4, -1, 0}, {0, 1, 0}, {4, 1, 0}, {-1, 0, -2}, {5, 0, -2}, {0, -2, -2}, {0, 2, -2},
                {127, 0, -2}, {-128, 0, -2}, {0, 127, -2}, {0, -128, -2}};
            for (int[] pair : pairs) {
                EnemyLetters x = Due.land(EACH);
                x.row(1, width, 60);
                for (int i = 0; i < 60; i += 2) {
                    x.write(1, i, i == 58 ? pair[0] : 1);
                    x.write(1, i + 1, i == 58 ? pair[1] : -1);
                }
                numbers(x, 1, "the last of thirty: " + pair[0] + ", " + pair[1], pair[2]);
                x.paste(1, 58, 1, 0, 2);
                x.write(1, 58, 1);
                x.write(1, 59, -1);
                numbers(x, 1, "the first of thirty: " + pair[0] + ", " + pair[1], pair[2]);
            }
            for (int n : new int[] {1, 3, 59}) {
                EnemyLetters x = Due.land(EACH);
                x.row(1, width, n);
                numbers(x, 1, n + " numbers are not two each", -2);
            }
        }
        EnemyLetters x = Due.land(EACH);
        x.row(0, 3, 2);
        for (long far : new long[] {1L << 32, 1L << 63, (1L << 32) + 1, -1L << 32, Long.MAX_VALUE, Long.MIN_VALUE, 256, 65536}) {
            x.write(0, 0, far);
            x.write(0, 1, 0);
            numbers(x, 0, far + " is no post", -2);
            x.write(0, 0, 0);
            x.write(0, 1, far);
            numbers(x, 0, far + " is no person", -2);
        }
        Due.due(54, "no posts: nothing can be told", noPosts(), -2);
    }

    private static int noPosts() {
        EnemyLetters x = Due.land(ONE + "person;");
        x.row(0, 0, 2);
        return x.fits(0, 0);
    }

    /** What all of these answer to a row that is refused, or that it is not. */
    private static void numbers(EnemyLetters x, int slot, String what, int want) {
        int[] promises = {54, 55, 56, 57, 58, 59};
        int[] got = {x.fits(slot, 0), x.surely(slot, 0), x.never(slot, 0), x.ask(slot, 0), x.leaves(slot, 0), x.laws(slot)};
        for (int i = 0; i < got.length; i++) {
            boolean isRefused = got[i] == -2;
            Due.due(promises[i], what + " (answer " + got[i] + ")", isRefused ? -2 : 0, want);
        }
    }

    private static void promises54To58Refused() {
        EnemyLetters x = Due.land(EACH);
        x.row(3, 0, 0);
        int[][] calls = {{0, 0, -6}, {2, 1, -6}, {0, 2, -2}, {0, -1, -2}, {4, 0, -2}, {-1, 0, -2}, {3, 2, -2}, {3, 1, 0}};
        for (int[] c : calls) {
            int[] got = {x.fits(c[0], c[1]), x.surely(c[0], c[1]), x.never(c[0], c[1]), x.ask(c[0], c[1]), x.leaves(c[0], c[1])};
            for (int i = 0; i < got.length; i++) {
                Due.due(54 + i, "slot " + c[0] + ", person " + c[1], got[i] < -1 ? got[i] : 0, c[2]);
            }
        }
        EnemyLetters none = new EnemyLetters();
        none.row(0, 0, 0);
        Due.due(54, "fits without a land", none.fits(0, 0), -2);
        Due.due(54, "fits of nothing without a land: -2 ahead of -6", none.fits(1, 0), -2);
        Due.due(59, "laws of nothing without a land: -2 ahead of -6", none.laws(1), -2);
        Due.due(59, "laws of no such slot without a land", none.laws(4), -2);
        x.row(3, 0, 1);
        Due.due(54, "a row of one behind a row of none", x.fits(3, 0), -2);
    }

    private static void promise57FirstOfSeveral() {
        // post 0 goes to 0 unless he got post 1: each tells whether he has skill 0
        EnemyLetters x = Due.land("land years 2 law 0 odds 0;person;person;hates 1 0 5;post at 1;post at 0 0;");
        x.row(0, 0, 0);
        Due.due(57, "ask, the first of several", x.ask(0, 0), 0);
        Due.due(58, "leaves", x.leaves(0, 0), 32);
        EnemyLetters y = Due.land("land years 1 law 0 odds 0;person;person;hates 1 0 5;post at 1;post at 0 0 1;post at 0 2;");
        y.row(0, 0, 0);
        Due.due(58, "leaves: nobody hates by two: 32, not 64", y.leaves(0, 0), 32);
        Due.due(57, "ask, the last", y.ask(0, 0), 2);
        Due.due(57, "ask of one of whom all is one: none", y.ask(0, 1), -1);
        Due.due(58, "leaves of one of whom all is one", y.leaves(0, 1), 64);
    }

    /** The last person and the last post: who gets it tells all that is to know. */
    private static void promise57LastOfAll() {
        EnemyLetters x = Due.land(ONE + "person;".repeat(5) + "person 0;hates 0 5 1;" + "post at 0 1;".repeat(4) + "post at 0 0;");
        x.row(0, 0, 0);
        Due.due(57, "ask of the last", x.ask(0, 5), 0);
        Due.due(58, "leaves of the last", x.leaves(0, 5), 32);
        x.row(0, 0, 2);
        x.write(0, 1, -1);
        Due.due(57, "ask, the last post", x.ask(0, 5), 4);
        Due.due(58, "leaves, the last post", x.leaves(0, 5), 16);
        x.write(0, 0, 4);
        x.write(0, 1, 5);
        Due.due(54, "fits: the last got the last", x.fits(0, 5), 16);
        Due.due(57, "ask: no more to know", x.ask(0, 5), -1);
        Due.due(58, "leaves: as now", x.leaves(0, 5), 16);
    }

    private static void promise59Laws() {
        EnemyLetters x = Due.land("land years 3 law 1 odds 0;person 0;person;person 1;hates 1 0 2;likes 1 2 3;wrong 2 1 3 at 2;"
            + "post at 2 0;post at 2 1;post at 3;");
        x.row(0, 0, 0);
        Due.due(59, "laws of an empty row: all", x.laws(0), 15);
        x.row(0, 2, 2);
        Due.due(59, "laws by which 0 gets post 0: the hate of 2 stays", x.laws(0), 1);
        x.write(0, 1, -1);
        Due.due(59, "laws by which nobody does", x.laws(0), 14);
        x.write(0, 1, 1);
        Due.due(59, "laws by which 1 does: none", x.laws(0), 0);
        x.write(0, 0, 1);
        x.write(0, 1, 2);
        Due.due(59, "laws by which 2 gets post 1: the like fades", x.laws(0), 6);
        x.write(0, 0, 2);
        x.write(0, 1, -1);
        Due.due(59, "laws by which nobody gets a post of no year: all", x.laws(0), 15);
        Due.due(59, "laws of nothing", x.laws(1), -6);
        Due.due(59, "laws(4)", x.laws(4), -2);
        Due.due(59, "laws(-1)", x.laws(-1), -2);
        Due.due(59, "the law is as told", x.count(1), 1);
    }
}
