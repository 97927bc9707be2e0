import java.lang.reflect.Method;
import java.util.Arrays;

/**
 * For each call that asks for something there is: each argument at its least and its greatest, and one below, one above
 * and far beyond them; one person twice; in a land as large as any, in a small one, and without a land.
 */
public final class BoundsArgumentsTest {
    private static final int NO_SUCH = -2;
    private static final int NO_FEELING = -1000;

    /** Nine years: with ten there is no chance and no mean. */
    private static final String LARGE = "land years 9 law 0 odds 3;" + "person 0;".repeat(6) + "hates 0 1 15;hates 5 0 16;"
        + "wrong 1 0 13 at 0;" + "post at 8;".repeat(5);
    private static final String SMALL = "land years 1 law 0 odds 10;person;person;post at 0;";

    /**
     * A promise, its call, its arguments' kinds, and what it answers if there are none such. Kinds: p, o persons (unlike),
     * q post, y year, l law, s slot, t set of persons, b set of skills, w what, n how much, d seed, m how many, k image.
     */
    private static final String[] CALLS = {
        "6 skills p", "7 needs q", "8 year q", "9 feels poy", "10 enemies py", "11 friends py", "12 hate py", "13 worst py",
        "14 mild py", "15 bitter y", "16 praise p", "17 dearest py", "18 foe py", "19 steady po", "20 cold y", "21 harms p",
        "22 hurts p", "23 all y", "24 top q", "25 next q", "26 first -", "27 sours po", "28 years po", "29 lowest po",
        "30 hated y", "31 porter y", "32 mutual y", "33 rings y", "34 word pq", "35 pens pq", "36 gets q", "37 has p",
        "38 may q", "39 edge q", "40 writes p", "41 given -", "42 idle -", "43 hopes p", "44 lacks pq", "45 least poq",
        "46 target pq", "47 learns pq", "48 best -", "49 put q", "50 ways -", "51 by l", "52 law -", "53 spare -",
        "54 fits sp", "55 surely sp", "56 never sp", "57 ask sp", "58 leaves sp", "59 laws s", "60 worth pqt",
        "61 share pqow", "62 rests po", "63 wins powv", "64 chance pqw", "65 mean w", "66 wrongs pony", "67 amends poy",
        "69 anew -", "70 drawn dw", "71 luck dmpq", "72 rate pb", "74 image k"};

    public static void main(String[] args) throws Exception {
        for (String line : CALLS) {
            String[] parts = line.split(" ");
            Asked a = new Asked(Integer.parseInt(parts[0]), parts[1], parts[2].equals("-") ? "" : parts[2]);
            a.within(LARGE, 6, 5, 9);
            a.within(SMALL, 2, 1, 1);
            a.withoutLand("");
            a.withoutLand("land years 1 law 0 odds 0;person;person;post at 0");
        }
        Due.finish(6, 67);
    }

    private static Method method(String name) {
        return Arrays.stream(EnemyLetters.class.getDeclaredMethods()).filter(m -> m.getName().equals(name)).findFirst()
            .orElseThrow();
    }

    private record Asked(int promise, String name, String kinds) {
        int refusal() {
            boolean isFeeling = name.equals("feels") || name.equals("lowest") || name.equals("wins")
                || name.equals("wrongs") || name.equals("amends");
            return isFeeling ? NO_FEELING : NO_SUCH;
        }

        void within(String text, int persons, int posts, int years) throws Exception {
            for (int i = 0; i < kinds.length(); i++) {
                int low = low(kinds.charAt(i));
                int high = high(kinds.charAt(i), persons, posts, years);
                for (int v : new int[] {low, high}) {
                    taken(text, arguments(i, v, persons));
                }
                for (int v : new int[] {low - 1, low - 2, Integer.MIN_VALUE, Integer.MIN_VALUE + low, -1 - high, high + 1,
                    high + 2, Integer.MAX_VALUE, Integer.MAX_VALUE - 1}) {
                    refused(text, arguments(i, v, persons));
                }
                for (int shift = 5; shift < 31; shift++) {
                    if ((1L << shift) + low > high) {
                        refused(text, arguments(i, (1 << shift) + low, persons));
                    }
                }
            }
            for (int p = 0; p < persons && kinds.indexOf('o') >= 0; p++) {
                int[] a = arguments(0, p, persons);
                a[kinds.indexOf('o')] = p;
                refused(text, a);
            }
            if (kinds.isEmpty()) {
                taken(text, new int[0]);
            }
        }

        void withoutLand(String text) throws Exception {
            boolean isOfLand = !name.equals("image");
            int due = refusal();
            int[] a = arguments(0, kinds.isEmpty() ? 0 : low(kinds.charAt(0)), 2);
            if (isOfLand) {
                Due.due(promise, name + Arrays.toString(a) + " without a land", answer(text, a), due);
            }
        }

        /** The least of each kind, but one; the other person is one that the first is not. */
        private int[] arguments(int at, int value, int persons) {
            int[] a = new int[kinds.length()];
            for (int i = 0; i < a.length; i++) {
                a[i] = i == at ? value : low(kinds.charAt(i));
            }
            int p = kinds.indexOf('p');
            int o = kinds.indexOf('o');
            if (o >= 0 && o != at) {
                a[o] = a[p] == 0 ? persons - 1 : 0;
            } else if (o >= 0) {
                a[p] = value == 0 ? persons - 1 : 0;
            }
            return a;
        }

        private void taken(String text, int[] a) throws Exception {
            long got = answer(text, a);
            boolean isFine = got != refusal() && got != -6 && got != -3 && got != -5;
            Due.due(promise, name + Arrays.toString(a) + ", at a bound, is taken (answer " + got + ")", isFine ? 1 : 0, 1);
        }

        private void refused(String text, int[] a) throws Exception {
            Due.due(promise, name + Arrays.toString(a), answer(text, a), refusal());
        }

        private long answer(String text, int[] a) throws Exception {
            EnemyLetters x = Due.land(text);
            for (int slot = 0; slot < 4; slot++) {
                x.row(slot, slot, 0);
            }
            Object[] boxed = Arrays.stream(a).boxed().toArray();
            return ((Number) method(name).invoke(x, boxed)).longValue();
        }
    }

    private static int low(char kind) {
        return kind == 'n' || kind == 'm' ? 1 : 0;
    }

    private static int high(char kind, int persons, int posts, int years) {
        switch (kind) {
            case 'p': case 'o': return persons - 1;
            case 'q': return posts - 1;
            case 'y': return years - 1;
            case 'l': case 's': return 3;
            case 't': return (1 << persons) - 1;
            case 'b': return 63;
            case 'w': case 'v': return 1;
            case 'n': return 40;
            case 'd': return 2000000000;
            case 'm': return 20;
            default: return 2;
        }
    }
}
