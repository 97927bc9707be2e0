import java.lang.reflect.Method;
import java.util.Arrays;

/**
 * For each call that asks for something there is: each argument at its least and its greatest, and one below, one above
 * and far beyond them; one person twice; in a land as large as any, in a small one, and without a land.
 */
public final class BoundsArgumentsTest {
    private static final int NO_SUCH = -2;
    private static final int NO_FEELING = -1000;

    /** Nine years: with ten there is no chance and no mean. */
    private static final String LARGE = "land years 9 law 0 odds 3;" + "person 0;".repeat(6) + "hates 0 1 15;hates 5 0 16;"
        + "wrong 1 0 13 at 0;" + "post at 8;".repeat(5);
    private static final String SMALL = "land years 1 law 0 odds 10;person;person;post at 0;";

    /**
     * A promise, its call, its arguments' kinds, and what it answers if there are none such. Kinds: p, o persons (unlike),
     * q post, y year, l law, s slot, t set of persons, b set of skills, w what, n how much, d seed, m how many, k image.
     */
    private static final String[] CALLS = {
        "6 skills p", "7 needs q", "8 year q", "9 feels poy", "10 enemies py", "11 friends py", "12 hate py", "13 worst py",
        "14 mild py", "15 bitter y", "16 praise p", "17 dearest py", "18 foe py", "19 steady po", "20 cold y", "21 harms p",
        "22 hurts p", "23 all y", "24 top q", "25 next q", "26 first -", "27 sours po", "28 years po", "29 lowest po",
        "30 hated y", "31 porter y", "32 mutual y", "33 rings y", "34 word pq", "35 pens pq", "36 gets q", "37 has p",
        "38 may q", "39 edge q", "40 writes p", "41 given -", "42 idle -", "43 hopes p", "44 lacks pq", "45 least poq",
        "46 target pq", "47 learns pq", "48 best -", "49 put q", "50 ways -", "51 by l", "52 law -", "53 spare -",
        "54 fits sp", "55 surely sp", "56 never sp", "57 ask sp", "58 leaves sp", "59 laws s", "60 worth pqt",
        "61 share pqow", "62 rests po", "63 wins powv", "64 chance pqw", "65 mean w", "66 wrongs pony", "67 amends poy",
        "69 anew -", "70 drawn dw", "71 luck dmpq", "72 rate pb", "74 image k"};

    public static void main(String[] args) throws Exception {
        for (String line : CALLS) {
            String[] parts = line.split(" ");
            Asked a = new Asked(Integer.parseInt(parts[0]), parts[1], parts[2].equals("-") ? "" : parts[2]);
            a.within(LARGE, 6, 5, 9);
            a.within(SMALL, 2, 1, 1);
            a.withoutLand("");
            a.withoutLand("land years 1 law 0 odds 0;person;person;post at 0");
        }
        lastOfTheGreatest();
        Due.finish(6, 67);
    }

    /** Six persons, twelve years, five posts: what stands behind the last of each is nothing, and nobody. */
    private static void lastOfTheGreatest() {
        EnemyLetters x = Due.land("land years 12 law 0 odds 10;" + "person 0;".repeat(6) + "hates 5 4 60;hates 4 5 60;likes 5 0 60;"
            + "likes 0 5 59;wrong 0 5 40 at 11;" + "post at 11 0;".repeat(5));
        int y = 11;
        long[][] asked = {{9, x.feels(5, 0, y), 20}, {9, x.feels(5, 4, y), -60}, {10, x.enemies(5, y), 16},
            {10, x.enemies(4, y), 32}, {11, x.friends(5, y), 1}, {12, x.hate(5, y), 60}, {13, x.worst(5, y), 4},
            {13, x.worst(3, y), -1}, {14, x.mild(5, y), 3}, {15, x.bitter(y), 48}, {16, x.praise(5), 300},
            {17, x.dearest(5, y), 0}, {17, x.dearest(3, y), -1}, {18, x.foe(5, y), 4}, {18, x.foe(3, y), -1},
            {19, x.steady(5, 4), 11}, {19, x.steady(5, 0), 10}, {20, x.cold(y), 13}, {21, x.harms(0), 40}, {22, x.hurts(5), 40},
            {23, x.all(y), 120}, {24, x.top(4), 60}, {25, x.next(0), 5}, {25, x.next(4), -1}, {26, x.first(), 11},
            {27, x.sours(5, 4), 0}, {27, x.sours(5, 0), -1}, {28, x.years(5, 4), 12}, {29, x.lowest(5, 0), 20},
            {30, x.hated(y), 4}, {31, x.porter(y), 0}, {32, x.mutual(y), 1}, {33, x.rings(y), 0}, {34, x.word(5, 4), 60},
            {35, x.pens(5, 4), 16}, {36, x.gets(0), 4}, {36, x.gets(1), 5}, {36, x.gets(4), -1}, {37, x.has(5), 1},
            {38, x.may(4), 48}, {39, x.edge(0), 0}, {40, x.writes(5), 1}, {41, x.given(), 3}, {42, x.idle(), 15},
            {43, x.hopes(5), 31}, {44, x.lacks(5, 4), 0}, {45, x.least(3, 5, 4), -1}, {46, x.target(3, 0), 0},
            {47, x.learns(5, 1), 0}, {48, x.best(), 122}, {49, x.put(4), 5}, {50, x.ways(), 20}, {51, x.by(3), 2},
            {52, x.law(), 0}, {53, x.spare(), -1}, {60, x.worth(5, 4, 63), 60}, {61, x.share(5, 4, 4, 0), 60},
            {62, x.rests(4, 5), 1}, {63, x.wins(5, 4, 1, 1), 5}, {64, x.chance(5, 4, 0), -3}, {65, x.mean(0), -3},
            {66, x.wrongs(5, 4, 1, y), -60}, {67, x.amends(5, 4, y), 0}};
        for (int i = 0; i < asked.length; i++) {
            Due.due((int) asked[i][0], "the last of the greatest land, " + i, asked[i][1], asked[i][2]);
        }
    }

    private static Method method(String name) {
        return Arrays.stream(EnemyLetters.class.getDeclaredMethods()).filter(m -> m.getName().equals(name)).findFirst()
            .orElseThrow();
    }

    private record Asked(int promise, String name, String kinds) {
        int refusal() {
            boolean isFeeling = name.equals("feels") || name.equals("lowest") || name.equals("wins")
                || name.equals("wrongs") || name.equals("amends");
            return isFeeling ? NO_FEELING : NO_SUCH;
        }

        void within(String text, int persons, int posts, int years) throws Exception {
            for (int i = 0; i < kinds.length(); i++) {
                int low = low(kinds.charAt(i));
                int high = high(kinds.charAt(i), persons, posts, years);
                for (int v : new int[] {low, high}) {
                    taken(text, arguments(i, v, persons));
                }
                for (int v : new int[] {low - 1, low - 2, Integer.MIN_VALUE, Integer.MIN_VALUE + low, -1 - high, high + 1,
                    high + 2, Integer.MAX_VALUE, Integer.MAX_VALUE - 1}) {
                    refused(text, arguments(i, v, persons));
                }
                for (int shift = 5; shift < 31; shift++) {
                    if ((1L << shift) + low > high) {
                        refused(text, arguments(i, (1 << shift) + low, persons));
                    }
                }
            }
            for (int p = 0; p < persons && kinds.indexOf('o') >= 0; p++) {
                int[] a = arguments(0, p, persons);
                a[kinds.indexOf('o')] = p;
                refused(text, a);
            }
            if (kinds.isEmpty()) {
                taken(text, new int[0]);
            }
        }

        void withoutLand(String text) throws Exception {
            boolean isOfLand = !name.equals("image");
            int due = refusal();
            int[] a = arguments(0, kinds.isEmpty() ? 0 : low(kinds.charAt(0)), 2);
            if (isOfLand) {
                Due.due(promise, name + Arrays.toString(a) + " without a land", answer(text, a), due);
            }
        }

        /** The least of each kind, but one; the other person is one that the first is not. */
        private int[] arguments(int at, int value, int persons) {
            int[] a = new int[kinds.length()];
            for (int i = 0; i < a.length; i++) {
                a[i] = i == at ? value : low(kinds.charAt(i));
            }
            int p = kinds.indexOf('p');
            int o = kinds.indexOf('o');
            if (o >= 0 && o != at) {
                a[o] = a[p] == 0 ? persons - 1 : 0;
            } else if (o >= 0) {
                a[p] = value == 0 ? persons - 1 : 0;
            }
            return a;
        }

        private void taken(String text, int[] a) throws Exception {
            long got = answer(text, a);
            boolean isFine = got != refusal() && got != -6 && got != -3 && got != -5;
            Due.due(promise, name + Arrays.toString(a) + ", at a bound, is taken (answer " + got + ")", isFine ? 1 : 0, 1);
        }

        private void refused(String text, int[] a) throws Exception {
            Due.due(promise, name + Arrays.toString(a), answer(text, a), refusal());
        }

        private long answer(String text, int[] a) throws Exception {
            EnemyLetters x = Due.land(text);
            for (int slot = 0; slot < 4; slot++) {
                x.row(slot, slot, 0);
            }
            Object[] boxed = Arrays.stream(a).boxed().toArray();
            return ((Number) method(name).invoke(x, boxed)).longValue();
        }
    }

    private static int low(char kind) {
        return kind == 'n' || kind == 'm' ? 1 : 0;
    }

    private static int high(char kind, int persons, int posts, int years) {
        switch (kind) {
            case 'p': case 'o': return persons - 1;
            case 'q': return posts - 1;
            case 'y': return years - 1;
            case 'l': case 's': return 3;
            case 't': return (1 << persons) - 1;
            case 'b': return 63;
            case 'w': case 'v': return 1;
            case 'n': return 40;
            case 'd': return 2000000000;
            case 'm': return 20;
            default: return 2;
        }
    }
}
