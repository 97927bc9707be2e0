import java.lang.reflect.Method;
import java.math.BigInteger;
import java.nio.charset.StandardCharsets;
import java.util.ArrayList;
import java.util.Arrays;
import java.util.Comparator;
import java.util.HashMap;
import java.util.List;
import java.util.Map;
import java.util.Random;

/**
 * Long random runs of calls, each answered by the class and by a second, plainer program that is
 * written from the document alone: by lists, by all orders, by all rows.
 */
public final class ModelTest {
    private static final int RUNS = 1500;
    /** A land may be told behind the last of these by 43 calls more; an object is promised for 512. */
    private static final int CALLS = 460;

    public static void main(String[] args) throws Exception {
        Method[] real = faceOf(EnemyLetters.class);
        Method[] plain = faceOf(Model.class);
        if (real.length != 77 || plain.length != 77) {
            System.out.println("the face has " + real.length + " methods, the model's " + plain.length + ", due are 77");
            System.exit(1);
        }
        int wrong = 0;
        Map<String, Integer> answers = new HashMap<>();
        for (int run = 0; run < RUNS && wrong == 0; run++) {
            wrong += oneRun(new Random(run), run, real, plain, answers);
        }
        for (Method m : real) {
            int due = m.getName().equals("spare") ? 3 : 100;
            if (wrong == 0 && answers.getOrDefault(m.getName(), 0) < due) {
                System.out.println(m.getName() + " was answered by no refusal only "
                    + answers.getOrDefault(m.getName(), 0) + " times");
                wrong++;
            }
        }
        System.out.println(wrong == 0 ? "the model agrees" : "the model does not agree");
        if (wrong != 0) {
            System.exit(1);
        }
    }

    private static Method[] faceOf(Class<?> c) {
        return Arrays.stream(c.getDeclaredMethods())
            .filter(m -> java.lang.reflect.Modifier.isPublic(m.getModifiers()))
            .sorted(Comparator.comparing(Method::getName)).toArray(Method[]::new);
    }

    private static int oneRun(Random r, int run, Method[] real, Method[] plain, Map<String, Integer> answers)
            throws Exception {
        EnemyLetters x = new EnemyLetters();
        Model m = new Model();
        List<String> log = new ArrayList<>();
        int calls = 0;
        int busy = r.nextInt(10);
        while (calls < CALLS) {
            if (calls == 0 && r.nextInt(8) != 0 || r.nextInt(250) == 0) {
                String text = Lands.text(r);
                for (Object[] a : Lands.tapeCalls(text)) {
                    calls++;
                    if (!same(x, m, method(real, (String) a[0]), method(plain, (String) a[0]), (Object[]) a[1], log, answers)) {
                        return report(run, log, text);
                    }
                }
                continue;
            }
            int i = r.nextInt(real.length);
            String name = real[i].getName();
            if (busy == 0 && r.nextInt(9) != 0) {
                i = Arrays.asList(real).indexOf(method(real, r.nextBoolean() ? "wrongs" : "amends"));
            } else if (busy == 0 && List.of("anew", "undo", "back", "land").contains(name)) {
                continue;
            }
            if ((name.equals("feed") || name.equals("land") || name.equals("end")) && r.nextInt(12) != 0) {
                continue;
            }
            calls++;
            if (!same(x, m, real[i], plain[i], Lands.arguments(r, real[i], m), log, answers)) {
                return report(run, log, "");
            }
        }
        return 0;
    }

    private static Method method(Method[] all, String name) {
        for (Method m : all) {
            if (m.getName().equals(name)) {
                return m;
            }
        }
        throw new IllegalStateException(name);
    }

    private static boolean same(EnemyLetters x, Model m, Method real, Method plain, Object[] a, List<String> log,
            Map<String, Integer> answers) throws Exception {
        long want = ((Number) plain.invoke(m, a)).longValue();
        long got;
        try {
            got = ((Number) real.invoke(x, a)).longValue();
        } catch (java.lang.reflect.InvocationTargetException e) {
            e.getCause().printStackTrace(System.out);
            got = Long.MIN_VALUE;
        }
        log.add(real.getName() + Arrays.toString(a) + " answered " + got + ", the model's is " + want);
        if (want >= 0 || want > -1000 && want < -8) {
            answers.merge(real.getName(), 1, Integer::sum);
        }
        return got == want;
    }

    private static int report(int run, List<String> log, String text) {
        System.out.println("run " + run + " of the model: " + text);
        log.stream().skip(Math.max(0, log.size() - 40)).forEach(System.out::println);
        return 1;
    }
}

/** Random lands and arguments. */
final class Lands {
    static String text(Random r) {
        StringBuilder b = new StringBuilder();
        int years = r.nextInt(4) == 0 ? 1 + r.nextInt(12) : 1 + r.nextInt(6);
        b.append("land years ").append(years).append(" law ").append(r.nextInt(4)).append(" odds ")
            .append(r.nextInt(11)).append(";");
        int persons = r.nextInt(12) == 0 ? r.nextInt(3) : 3 + r.nextInt(4);
        boolean clever = r.nextInt(3) != 0;
        boolean weak = r.nextBoolean();
        for (int i = 0; i < persons; i++) {
            b.append("person").append(some(r, clever ? 5 : 3)).append(";");
        }
        int bonds = persons < 2 ? 0 : r.nextInt(21);
        for (int i = 0; i < bonds; i++) {
            b.append(r.nextInt(3) == 0 ? "likes " : "hates ").append(two(r, persons))
                .append(1 + r.nextInt(weak ? 6 : 60)).append(";");
        }
        int wrongs = persons < 2 ? 0 : r.nextInt(9);
        for (int i = 0; i < wrongs; i++) {
            b.append("wrong ").append(two(r, persons)).append(1 + r.nextInt(weak ? 6 : 40)).append(" at ")
                .append(r.nextInt(r.nextInt(6) == 0 ? 12 : years)).append(";");
        }
        int posts = r.nextInt(12) == 0 ? r.nextInt(6) : 2 + r.nextInt(4);
        for (int i = 0; i < posts; i++) {
            b.append("post at ").append(r.nextInt(r.nextInt(6) == 0 ? 12 : years)).append(wanted(r))
                .append(";");
        }
        return r.nextInt(5) == 0 ? spoil(r, b) : b.toString();
    }

    private static String some(Random r, int about) {
        StringBuilder b = new StringBuilder();
        List<Integer> all = new ArrayList<>(List.of(0, 1, 2, 3, 4, 5));
        java.util.Collections.shuffle(all, r);
        for (int k : all) {
            if (r.nextInt(6) < about) {
                b.append(' ').append(k);
            }
        }
        return b.toString();
    }

    private static String wanted(Random r) {
        int[] sizes = {0, 1, 1, 1, 1, 2, 2, 2, 3, 4};
        List<Integer> all = new ArrayList<>(List.of(0, 1, 2, 3, 4, 5));
        java.util.Collections.shuffle(all, r);
        StringBuilder b = new StringBuilder();
        for (int i = sizes[r.nextInt(sizes.length)]; i > 0; i--) {
            b.append(' ').append(all.get(i));
        }
        return b.toString();
    }

    private static String two(Random r, int persons) {
        int a = r.nextInt(persons);
        int b = r.nextInt(persons - 1);
        return a + " " + (b >= a ? b + 1 : b) + " ";
    }

    private static String spoil(Random r, StringBuilder b) {
        String[] bits = {";", " ", "\n", "0", "7", "12", "60", "61", "person", "land", "post at 0", "x", "?", "at", "\u00e9",
            "likes", " person 1;", "hates 0 1 1;", "wrong 0 1 1 at 0;", "post at 1;", "A", "99999999999", "\t"};
        for (int n = 1 + r.nextInt(2); n > 0; n--) {
            int at = r.nextInt(b.length() + 1);
            if (r.nextInt(3) == 0 && b.length() > 3) {
                b.delete(at, Math.min(b.length(), at + 1 + r.nextInt(3)));
            } else {
                b.insert(at, bits[r.nextInt(bits.length)]);
            }
        }
        return b.toString();
    }

    static List<Object[]> tapeCalls(String text) {
        List<Object[]> calls = new ArrayList<>();
        byte[] bytes = text.getBytes(StandardCharsets.ISO_8859_1);
        calls.add(new Object[] {"end", new Object[] {0}});
        int whole = Math.min((bytes.length + 19) / 20, 40);
        byte[] padded = Arrays.copyOf(bytes, whole * 20);
        for (int i = 0; i < whole; i++) {
            Object[] a = new Object[5];
            for (int k = 0; k < 5; k++) {
                a[k] = java.nio.ByteBuffer.wrap(padded, i * 20 + k * 4, 4).getInt();
            }
            calls.add(new Object[] {"feed", a});
        }
        calls.add(new Object[] {"end", new Object[] {Math.min(bytes.length, whole * 20)}});
        calls.add(new Object[] {"land", new Object[] {}});
        calls.add(new Object[] {"fault", new Object[] {0}});
        calls.add(new Object[] {"fault", new Object[] {1}});
        return calls;
    }

    static Object[] arguments(Random r, Method m, Model model) {
        Class<?>[] types = m.getParameterTypes();
        String name = m.getName();
        Object[] a = new Object[types.length];
        for (int i = 0; i < a.length; i++) {
            int v = number(r, model);
            boolean odd = r.nextInt(25) == 0;
            if (!odd && (name.equals("drawn") || name.equals("luck")) && i == 0) {
                v = r.nextInt(4) == 0 ? 2000000000 - r.nextInt(20) + 10 : r.nextInt(2000000000);
            } else if (!odd && name.equals("luck") && i == 1) {
                v = r.nextInt(22);
            } else if (!odd && name.equals("wrongs") && i == 2) {
                v = r.nextInt(42);
            } else if (!odd && name.equals("worth") && i == 2) {
                v = r.nextInt(66);
            } else if (!odd && name.equals("rate") && i == 1) {
                v = r.nextInt(66);
            } else if (!odd && name.equals("row")) {
                v = i == 2 ? (r.nextInt(8) == 0 ? r.nextInt(64) - 2 : 2 * r.nextInt(3)) : r.nextInt(2 + i);
            } else if (!odd && name.equals("count")) {
                v = r.nextInt(13) - 1;
            } else if (!odd && (name.equals("paste") || name.equals("write"))) {
                v = r.nextInt(4);
            } else if (!odd && isPart(name, i)) {
                v = r.nextInt(2);
            } else if (!odd && i == 0 && List.of("fits", "surely", "never", "ask", "leaves", "laws").contains(name)) {
                v = r.nextInt(3);
            } else if (!odd && name.equals("end")) {
                v = r.nextInt(60);
            } else if (!odd && name.equals("feed")) {
                v = 0x20202020;
            }
            if (types[i] == long.class) {
                a[i] = r.nextInt(6) == 0 ? r.nextLong() : (long) r.nextInt(7) - 1;
            } else {
                a[i] = v;
            }
        }
        return a;
    }

    private static boolean isPart(String name, int i) {
        return name.equals("share") && i == 3 || name.equals("wins") && i > 1 || name.equals("chance") && i == 2
            || name.equals("mean") || name.equals("drawn") && i == 1 || name.equals("fault");
    }

    private static int number(Random r, Model model) {
        int[] edges = {-1, 6, 12, 64, Integer.MIN_VALUE, Integer.MAX_VALUE, -2, 5, 11};
        return r.nextInt(20) == 0 ? edges[r.nextInt(edges.length)] : r.nextInt(r.nextInt(4) == 0 ? 7 : 4);
    }
}

/** The document, said again as plainly as can be. */
final class Model {
    static final class Told implements Cloneable {
        int years, law, odds, bonds, lines;
        List<Integer> skills = new ArrayList<>();
        Map<String, Integer> feel = new HashMap<>();
        List<int[]> wrongs = new ArrayList<>(); // by, to, n, year
        List<int[]> posts = new ArrayList<>(); // year, needs
        List<int[]> acts = new ArrayList<>(); // by, to, n (0: amends), year

        Told copy() {
            Told t = new Told();
            t.years = years;
            t.law = law;
            t.odds = odds;
            t.bonds = bonds;
            t.lines = lines;
            t.skills = new ArrayList<>(skills);
            t.feel = new HashMap<>(feel);
            t.wrongs = new ArrayList<>(wrongs);
            t.posts = new ArrayList<>(posts);
            t.acts = new ArrayList<>(acts);
            return t;
        }

        int n() {
            return skills.size();
        }
    }

    static final class Refusal extends RuntimeException {
        final int kind;
        final int place;

        Refusal(int kind, int place) {
            this.kind = kind;
            this.place = place;
        }
    }

    Told t = new Told();
    StringBuilder tape = new StringBuilder();
    int fault = 0;
    int place = -1;
    Told[] images = new Told[3];
    long[][] rows = new long[4][];
    int[] widths = new int[4];

    // ---- feelings ----

    static int fade(int v, int law) {
        if (law == 1) {
            return v > 0 ? v - 1 : v < 0 ? v + 1 : 0;
        }
        if (law == 2) {
            return v < 0 ? -((-v) >> 1) : v >> 1;
        }
        return law == 3 && v < 0 ? v + 1 : v;
    }

    /** What one feels towards another when posts are given in a year, by the whole story so far. */
    static int feel(Told t, int p, int o, int year, int thaws) {
        int v = t.feel.getOrDefault(p + ">" + o, 0);
        for (int y = 0; y <= year; y++) {
            if (y > 0) {
                v = fade(v, t.law);
                if ((thaws >> (y - 1) & 1) == 1 && v < 0) {
                    v++;
                }
            }
            List<int[]> deeds = new ArrayList<>(t.wrongs);
            deeds.addAll(t.acts);
            for (int[] d : deeds) {
                if (d[3] == y && d[0] == o && d[1] == p) {
                    if (d[2] == 0) {
                        v = v < 0 ? 0 : v;
                    } else {
                        v = v - d[2] < -60 ? -60 : v - d[2];
                    }
                }
            }
        }
        return v;
    }

    /** A wrong more behind all others of year 0: the acts' list is in order, so it goes last. */
    static Told more(Told t, int by, int to, int n) {
        Told u = t.copy();
        if (n > 0) {
            u.acts.add(new int[] {by, to, n, 0});
        }
        return u;
    }

    static List<Integer> writers(Told t, int person, int post, int set, int thaws) {
        int[] q = t.posts.get(post);
        if (q[0] >= t.years || (q[1] & t.skills.get(person)) != q[1]) {
            return null;
        }
        List<int[]> haters = new ArrayList<>();
        for (int p = 0; p < t.n(); p++) {
            if (p != person && (set >> p & 1) == 1 && feel(t, p, person, q[0], thaws) < 0) {
                haters.add(new int[] {feel(t, p, person, q[0], thaws), p});
            }
        }
        int k = Integer.bitCount(q[1]);
        if (haters.size() < k) {
            return null;
        }
        haters.sort(Comparator.comparingInt(h -> h[0]));
        List<Integer> out = new ArrayList<>();
        for (int i = 0; i < k; i++) {
            out.add(haters.get(i)[1]);
        }
        return out;
    }

    static int wordBy(Told t, int person, int post, int set, int thaws) {
        List<Integer> w = writers(t, person, post, set, thaws);
        if (w == null) {
            return -1;
        }
        int sum = 0;
        for (int p : w) {
            sum += -feel(t, p, person, t.posts.get(post)[0], thaws);
        }
        return sum;
    }

    static List<Integer> order(Told t) {
        List<Integer> order = new ArrayList<>();
        for (int q = 0; q < t.posts.size(); q++) {
            order.add(q);
        }
        order.sort(Comparator.comparingInt(q -> t.posts.get(q)[0]));
        return order;
    }

    static int[] give(Told t, int thaws) {
        int[] got = new int[t.posts.size()];
        Arrays.fill(got, -1);
        List<Integer> gone = new ArrayList<>();
        for (int q : order(t)) {
            int most = -1;
            for (int p = 0; p < t.n(); p++) {
                int w = gone.contains(p) ? -1 : wordBy(t, p, q, 63, thaws);
                if (w > most) {
                    most = w;
                    got[q] = p;
                }
            }
            gone.add(got[q]);
        }
        return got;
    }

    static int number(int[] got) {
        return (int) Arrays.stream(got).filter(p -> p >= 0).count();
    }

    static int bits(int[] got) {
        int b = 0;
        for (int q = 0; q < got.length; q++) {
            b += got[q] >= 0 ? 1 << q : 0;
        }
        return b;
    }

    // ---- what there is ----

    boolean none() {
        return t.lines == 0;
    }

    boolean noPerson(int p) {
        return p < 0 || p >= t.n();
    }

    boolean noPost(int q) {
        return q < 0 || q >= t.posts.size();
    }

    boolean noYear(int y) {
        return y < 0 || y >= t.years;
    }

    boolean noPair(int p, int o) {
        return noPerson(p) || noPerson(o) || p == o;
    }

    boolean noPart(int w) {
        return w < 0 || w > 1;
    }

    int f(int p, int o, int y) {
        return feel(t, p, o, y, 0);
    }

    int w(int p, int q) {
        return wordBy(t, p, q, 63, 0);
    }

    int[] got() {
        return give(t, 0);
    }

    // ---- the face ----

    public int feed(int a, int b, int c, int d, int e) {
        if (tape.length() > 780) {
            return -1;
        }
        for (int v : new int[] {a, b, c, d, e}) {
            for (byte x : java.nio.ByteBuffer.allocate(4).putInt(v).array()) {
                tape.append((char) (x & 255));
            }
        }
        return tape.length();
    }

    public int end(int n) {
        if (n < 0 || n > tape.length()) {
            return -1;
        }
        tape.setLength(n);
        return n;
    }

    public int land() {
        String s = tape.toString();
        tape.setLength(0);
        try {
            t = parse(s);
            fault = 0;
            place = -1;
            return t.lines;
        } catch (Refusal f) {
            fault = f.kind;
            place = f.place;
            return -4;
        }
    }

    private static Told parse(String s) {
        List<String> tokens = new ArrayList<>();
        List<Integer> places = new ArrayList<>();
        java.util.regex.Matcher m = java.util.regex.Pattern.compile("[a-z]+|[0-9]+|;|[^ \n]").matcher(s);
        while (m.find()) {
            tokens.add(m.group());
            places.add(m.start());
        }
        tokens.add("");
        places.add(s.length());
        Told t = new Told();
        int[] i = {0};
        while (!tokens.get(i[0]).isEmpty()) {
            String word = tokens.get(i[0]);
            int at = places.get(i[0]);
            if ((t.lines == 0) != word.equals("land")) {
                throw new Refusal(1, at);
            }
            i[0]++;
            switch (word) {
                case "land" -> {
                    t.years = named("years", tokens, places, i, 1, 12);
                    t.law = named("law", tokens, places, i, 0, 3);
                    t.odds = named("odds", tokens, places, i, 0, 10);
                }
                case "person" -> {
                    if (t.n() == 6) {
                        throw new Refusal(3, at);
                    }
                    t.skills.add(set(tokens, places, i));
                }
                case "likes", "hates" -> {
                    if (t.bonds == 20) {
                        throw new Refusal(3, at);
                    }
                    t.bonds++;
                    int a = num(tokens, places, i, 0, t.n() - 1, -1);
                    int b = num(tokens, places, i, 0, t.n() - 1, a);
                    int n = num(tokens, places, i, 1, 60, -1);
                    t.feel.put(a + ">" + b, word.equals("likes") ? n : -n);
                }
                case "wrong" -> {
                    if (t.wrongs.size() == 8) {
                        throw new Refusal(3, at);
                    }
                    int a = num(tokens, places, i, 0, t.n() - 1, -1);
                    int b = num(tokens, places, i, 0, t.n() - 1, a);
                    int n = num(tokens, places, i, 1, 40, -1);
                    t.wrongs.add(new int[] {a, b, n, named("at", tokens, places, i, 0, 11)});
                }
                case "post" -> {
                    if (t.posts.size() == 5) {
                        throw new Refusal(3, at);
                    }
                    int y = named("at", tokens, places, i, 0, 11);
                    t.posts.add(new int[] {y, set(tokens, places, i)});
                }
                default -> throw new Refusal(1, at);
            }
            if (!tokens.get(i[0]).equals(";")) {
                throw new Refusal(1, places.get(i[0]));
            }
            i[0]++;
            t.lines++;
        }
        return t;
    }

    private static int named(String word, List<String> tokens, List<Integer> places, int[] i, int low, int high) {
        if (!tokens.get(i[0]).equals(word)) {
            throw new Refusal(1, places.get(i[0]));
        }
        i[0]++;
        return num(tokens, places, i, low, high, -1);
    }

    private static int num(List<String> tokens, List<Integer> places, int[] i, int low, int high, int but) {
        String s = tokens.get(i[0]);
        if (!s.matches("[0-9]+")) {
            throw new Refusal(1, places.get(i[0]));
        }
        BigInteger v = new BigInteger(s);
        if (v.compareTo(BigInteger.valueOf(low)) < 0 || v.compareTo(BigInteger.valueOf(high)) > 0
                || v.equals(BigInteger.valueOf(but))) {
            throw new Refusal(2, places.get(i[0]));
        }
        i[0]++;
        return v.intValue();
    }

    private static int set(List<String> tokens, List<Integer> places, int[] i) {
        int set = 0;
        while (tokens.get(i[0]).matches("[0-9]+")) {
            int at = places.get(i[0]);
            int k = num(tokens, places, i, 0, 5, -1);
            if ((set & 1 << k) != 0) {
                throw new Refusal(2, at);
            }
            set |= 1 << k;
        }
        return set;
    }

    public int fault(int what) {
        return what == 0 ? fault : what == 1 ? place : -1;
    }

    public int skills(int p) {
        return noPerson(p) ? -2 : t.skills.get(p);
    }

    public int needs(int q) {
        return noPost(q) ? -2 : t.posts.get(q)[1];
    }

    public int year(int q) {
        return noPost(q) ? -2 : t.posts.get(q)[0];
    }

    public int feels(int p, int o, int y) {
        return noPair(p, o) || noYear(y) ? -1000 : f(p, o, y);
    }

    public int enemies(int p, int y) {
        if (noPerson(p) || noYear(y)) {
            return -2;
        }
        int b = 0;
        for (int o = 0; o < t.n(); o++) {
            b |= o != p && f(o, p, y) < 0 ? 1 << o : 0;
        }
        return b;
    }

    public int friends(int p, int y) {
        if (noPerson(p) || noYear(y)) {
            return -2;
        }
        int b = 0;
        for (int o = 0; o < t.n(); o++) {
            b |= o != p && f(o, p, y) > 0 ? 1 << o : 0;
        }
        return b;
    }

    public int hate(int p, int y) {
        if (noPerson(p) || noYear(y)) {
            return -2;
        }
        int sum = 0;
        for (int o = 0; o < t.n(); o++) {
            sum += o != p && f(o, p, y) < 0 ? -f(o, p, y) : 0;
        }
        return sum;
    }

    public int worst(int p, int y) {
        if (noPerson(p) || noYear(y)) {
            return -2;
        }
        int who = -1;
        for (int o = t.n() - 1; o >= 0; o--) {
            if (o != p && f(o, p, y) < 0 && (who < 0 || f(o, p, y) <= f(who, p, y))) {
                who = o;
            }
        }
        return who;
    }

    public int mild(int p, int y) {
        return noPerson(p) || noYear(y) ? -2
            : t.n() - 1 - Integer.bitCount(enemies(p, y)) - Integer.bitCount(friends(p, y));
    }

    public int bitter(int y) {
        if (noYear(y)) {
            return -2;
        }
        int b = 0;
        for (int p = 0; p < t.n(); p++) {
            b |= foe(p, y) >= 0 ? 1 << p : 0;
        }
        return b;
    }

    public int praise(int p) {
        if (noPerson(p)) {
            return -2;
        }
        int sum = 0;
        for (int q = 0; q < t.posts.size(); q++) {
            sum += w(p, q) > 0 ? w(p, q) : 0;
        }
        return sum;
    }

    public int dearest(int p, int y) {
        if (noPerson(p) || noYear(y)) {
            return -2;
        }
        int who = -1;
        for (int o = t.n() - 1; o >= 0; o--) {
            if (o != p && f(o, p, y) > 0 && (who < 0 || f(o, p, y) >= f(who, p, y))) {
                who = o;
            }
        }
        return who;
    }

    public int foe(int p, int y) {
        if (noPerson(p) || noYear(y)) {
            return -2;
        }
        int who = -1;
        for (int o = t.n() - 1; o >= 0; o--) {
            if (o != p && f(p, o, y) < 0 && (who < 0 || f(p, o, y) <= f(p, who, y))) {
                who = o;
            }
        }
        return who;
    }

    public int steady(int p, int o) {
        if (noPair(p, o)) {
            return -2;
        }
        int n = 0;
        for (int y = 0; y + 1 < t.years; y++) {
            n += f(p, o, y) == f(p, o, y + 1) ? 1 : 0;
        }
        return n;
    }

    public int cold(int y) {
        if (noYear(y)) {
            return -2;
        }
        int n = 0;
        for (int a = 0; a < t.n(); a++) {
            for (int b = 0; b < a; b++) {
                n += f(a, b, y) == 0 && f(b, a, y) == 0 ? 1 : 0;
            }
        }
        return n;
    }

    private int sum(int side, int p) {
        int sum = 0;
        for (int[] d : t.wrongs) {
            sum += d[side] == p && d[3] < t.years ? d[2] : 0;
        }
        for (int[] d : t.acts) {
            sum += d[side] == p ? d[2] : 0;
        }
        return sum;
    }

    public int harms(int p) {
        return noPerson(p) ? -2 : sum(0, p);
    }

    public int hurts(int p) {
        return noPerson(p) ? -2 : sum(1, p);
    }

    public int all(int y) {
        if (noYear(y)) {
            return -2;
        }
        int sum = 0;
        for (int p = 0; p < t.n(); p++) {
            sum += hate(p, y);
        }
        return sum;
    }

    public int top(int q) {
        if (noPost(q)) {
            return -2;
        }
        int most = -1;
        for (int p = 0; p < t.n(); p++) {
            most = Math.max(most, w(p, q));
        }
        return most;
    }

    public int next(int q) {
        if (noPost(q)) {
            return -2;
        }
        int[] got = got();
        List<Integer> out = new ArrayList<>();
        for (int o : order(t)) {
            out.add(got[o]);
            if (o == q) {
                break;
            }
        }
        int who = -1;
        for (int p = 0; p < t.n(); p++) {
            if (!out.contains(p) && w(p, q) >= 0 && (who < 0 || w(p, q) > w(who, q))) {
                who = p;
            }
        }
        return who;
    }

    public int first() {
        if (none()) {
            return -2;
        }
        for (int q : order(t)) {
            if (got()[q] >= 0) {
                return t.posts.get(q)[0];
            }
        }
        return -1;
    }

    public int sours(int p, int o) {
        if (noPair(p, o)) {
            return -2;
        }
        int first = -1;
        for (int y = t.years - 1; y >= 0; y--) {
            first = f(p, o, y) < 0 ? y : first;
        }
        return first;
    }

    public int years(int p, int o) {
        if (noPair(p, o)) {
            return -2;
        }
        int n = 0;
        for (int y = 0; y < t.years; y++) {
            n += f(p, o, y) < 0 ? 1 : 0;
        }
        return n;
    }

    public int lowest(int p, int o) {
        if (noPair(p, o)) {
            return -1000;
        }
        int least = 1000;
        for (int y = 0; y < t.years; y++) {
            least = Math.min(least, f(p, o, y));
        }
        return least;
    }

    public int hated(int y) {
        if (noYear(y)) {
            return -2;
        }
        int who = -1;
        for (int p = t.n() - 1; p >= 0; p--) {
            if (hate(p, y) > 0 && (who < 0 || hate(p, y) >= hate(who, y))) {
                who = p;
            }
        }
        return who;
    }

    public int porter(int y) {
        if (noYear(y)) {
            return -2;
        }
        int who = -1;
        for (int p = t.n() - 1; p >= 0; p--) {
            if (hate(p, y) == 0
                    && (who < 0 || Integer.bitCount(friends(p, y)) >= Integer.bitCount(friends(who, y)))) {
                who = p;
            }
        }
        return who;
    }

    public int mutual(int y) {
        if (noYear(y)) {
            return -2;
        }
        int n = 0;
        for (int a = 0; a < t.n(); a++) {
            for (int b = 0; b < a; b++) {
                n += f(a, b, y) < 0 && f(b, a, y) < 0 ? 1 : 0;
            }
        }
        return n;
    }

    public int rings(int y) {
        if (noYear(y)) {
            return -2;
        }
        java.util.Set<Integer> sets = new java.util.HashSet<>();
        for (int a = 0; a < t.n(); a++) {
            for (int b = 0; b < t.n(); b++) {
                for (int c = 0; c < t.n(); c++) {
                    if (a != b && b != c && c != a && f(a, b, y) < 0 && f(b, c, y) < 0 && f(c, a, y) < 0) {
                        sets.add(1 << a | 1 << b | 1 << c);
                    }
                }
            }
        }
        return sets.size();
    }

    public int word(int p, int q) {
        return noPerson(p) || noPost(q) ? -2 : w(p, q);
    }

    public int pens(int p, int q) {
        if (noPerson(p) || noPost(q)) {
            return -2;
        }
        List<Integer> who = writers(t, p, q, 63, 0);
        return who == null ? -1 : who.stream().mapToInt(o -> 1 << o).sum();
    }

    public int gets(int q) {
        return noPost(q) ? -2 : got()[q];
    }

    public int has(int p) {
        if (noPerson(p)) {
            return -2;
        }
        int[] got = got();
        for (int q = 0; q < got.length; q++) {
            if (got[q] == p) {
                return q;
            }
        }
        return -1;
    }

    public int may(int q) {
        if (noPost(q)) {
            return -2;
        }
        int b = 0;
        for (int p = 0; p < t.n(); p++) {
            b |= w(p, q) >= 0 ? 1 << p : 0;
        }
        return b;
    }

    public int edge(int q) {
        if (noPost(q)) {
            return -2;
        }
        int who = gets(q);
        int second = next(q);
        return who < 0 || second < 0 ? -1 : w(who, q) - w(second, q);
    }

    public int writes(int p) {
        if (noPerson(p)) {
            return -2;
        }
        int n = 0;
        int[] got = got();
        for (int q = 0; q < got.length; q++) {
            n += got[q] >= 0 && writers(t, got[q], q, 63, 0).contains(p) ? 1 : 0;
        }
        return n;
    }

    public int given() {
        return none() ? -2 : bits(got());
    }

    public int idle() {
        if (none()) {
            return -2;
        }
        int b = (1 << t.n()) - 1;
        for (int p : got()) {
            b -= p >= 0 ? 1 << p : 0;
        }
        return b;
    }

    public int hopes(int p) {
        if (noPerson(p)) {
            return -2;
        }
        int b = 0;
        for (int q = 0; q < t.posts.size(); q++) {
            b |= w(p, q) >= 0 ? 1 << q : 0;
        }
        return b;
    }

    public int lacks(int p, int q) {
        return noPerson(p) || noPost(q) ? -2 : t.posts.get(q)[1] & (63 ^ t.skills.get(p));
    }

    private int leastOf(int p, int o, int q) {
        for (int n = 0; n <= 120; n++) {
            if (give(more(t, p, o, n), 0)[q] == p) {
                return n;
            }
        }
        return -1;
    }

    public int least(int p, int o, int q) {
        return noPair(p, o) || noPost(q) ? -2 : leastOf(p, o, q);
    }

    public int target(int p, int q) {
        if (noPerson(p) || noPost(q)) {
            return -2;
        }
        int who = -1;
        int least = 1000;
        for (int o = 0; o < t.n(); o++) {
            int n = o == p ? -1 : leastOf(p, o, q);
            if (n >= 0 && n < least) {
                least = n;
                who = o;
            }
        }
        return who;
    }

    private Told able(int p, int set) {
        Told u = t.copy();
        u.skills.set(p, set);
        return u;
    }

    public int learns(int p, int q) {
        if (noPerson(p) || noPost(q)) {
            return -2;
        }
        int best = -1;
        for (int set = 0; set < 64; set++) {
            if ((set & t.skills.get(p)) == 0 && give(able(p, set + t.skills.get(p)), 0)[q] == p
                    && (best < 0 || Integer.bitCount(set) < Integer.bitCount(best))) {
                best = set;
            }
        }
        return best;
    }

    /** All rows of nobody and persons, from the least on; [0] the most, [1] how many, [2 ..] the first. */
    private int[] rowsOf() {
        int posts = t.posts.size();
        int[] out = new int[2 + posts];
        out[0] = -1;
        int[][] words = new int[posts][t.n()];
        for (int q = 0; q < posts; q++) {
            for (int p = 0; p < t.n(); p++) {
                words[q][p] = w(p, q);
            }
        }
        int total = (int) Math.pow(t.n() + 1, posts);
        for (int code = 0; code < total; code++) {
            int[] row = new int[posts];
            int rest = code;
            for (int q = posts - 1; q >= 0; q--) {
                row[q] = rest % (t.n() + 1) - 1;
                rest /= t.n() + 1;
            }
            int worth = 0;
            int used = 0;
            for (int q = 0; q < posts && worth >= 0; q++) {
                if (row[q] >= 0) {
                    boolean ok = (used >> row[q] & 1) == 0 && words[q][row[q]] >= 0;
                    used |= 1 << row[q];
                    worth = ok ? worth + words[q][row[q]] + 1 : -1;
                }
            }
            if (worth > out[0]) {
                out[0] = worth;
                out[1] = 0;
                System.arraycopy(row, 0, out, 2, posts);
            }
            out[1] += worth == out[0] ? 1 : 0;
        }
        return out;
    }

    public int best() {
        return none() ? -2 : rowsOf()[0];
    }

    public int put(int q) {
        return noPost(q) ? -2 : rowsOf()[2 + q];
    }

    public int ways() {
        return none() ? -2 : rowsOf()[1];
    }

    private Told byLaw(int law) {
        Told u = t.copy();
        u.law = law;
        return u;
    }

    public int by(int law) {
        return none() || law < 0 || law > 3 ? -2 : number(give(byLaw(law), 0));
    }

    public int law() {
        if (none()) {
            return -2;
        }
        int best = 3;
        for (int i = 2; i >= 0; i--) {
            best = by(i) >= by(best) ? i : best;
        }
        return best;
    }

    public int spare() {
        if (none()) {
            return -2;
        }
        int which = -1;
        int most = number(got());
        for (int i = 0; i < t.wrongs.size(); i++) {
            Told u = t.copy();
            u.wrongs.remove(i);
            int n = number(give(u, 0));
            if (n > most) {
                most = n;
                which = i;
            }
        }
        return which;
    }

    private boolean badRow(int slot) {
        long[] r = rows[slot];
        if (r.length % 2 != 0) {
            return true;
        }
        for (int i = 0; i < r.length; i += 2) {
            if (r[i] < 0 || r[i] >= t.posts.size() || r[i + 1] < -1 || r[i + 1] >= t.n()) {
                return true;
            }
        }
        return false;
    }

    private boolean tells(int slot, int[] got) {
        for (int i = 0; i < rows[slot].length; i += 2) {
            if (got[(int) rows[slot][i]] != rows[slot][i + 1]) {
                return false;
            }
        }
        return true;
    }

    private int refusal(int slot, int p) {
        if (slot < 0 || slot > 3 || noPerson(p)) {
            return -2;
        }
        return rows[slot] == null ? -6 : badRow(slot) ? -2 : 0;
    }

    private List<Integer> fitting(int slot, int p) {
        List<Integer> out = new ArrayList<>();
        for (int set = 0; set < 64; set++) {
            if (tells(slot, give(able(p, set), 0))) {
                out.add(set);
            }
        }
        return out;
    }

    public int fits(int slot, int p) {
        return refusal(slot, p) != 0 ? refusal(slot, p) : fitting(slot, p).size();
    }

    public int surely(int slot, int p) {
        return refusal(slot, p) != 0 ? refusal(slot, p) : fitting(slot, p).stream().reduce((a, b) -> a & b).orElse(-1);
    }

    public int never(int slot, int p) {
        return refusal(slot, p) != 0 ? refusal(slot, p)
            : fitting(slot, p).stream().map(s -> 63 - s).reduce((a, b) -> a & b).orElse(-1);
    }

    /** [0] the post to ask for, [1] how many are left. */
    private int[] asking(int slot, int p) {
        List<Integer> sets = fitting(slot, p);
        int[] out = {-1, sets.size()};
        for (int q = 0; q < t.posts.size(); q++) {
            Map<Integer, Integer> ends = new HashMap<>();
            for (int set : sets) {
                ends.merge(give(able(p, set), 0)[q], 1, Integer::sum);
            }
            int worst = ends.values().stream().max(Integer::compare).orElse(0);
            if (worst < out[1]) {
                out = new int[] {q, worst};
            }
        }
        return out;
    }

    public int ask(int slot, int p) {
        return refusal(slot, p) != 0 ? refusal(slot, p) : asking(slot, p)[0];
    }

    public int leaves(int slot, int p) {
        return refusal(slot, p) != 0 ? refusal(slot, p) : asking(slot, p)[1];
    }

    public int laws(int slot) {
        if (none() || slot < 0 || slot > 3) {
            return -2;
        }
        if (rows[slot] == null) {
            return -6;
        }
        if (badRow(slot)) {
            return -2;
        }
        int b = 0;
        for (int i = 0; i < 4; i++) {
            b |= tells(slot, give(byLaw(i), 0)) ? 1 << i : 0;
        }
        return b;
    }

    public int worth(int p, int q, int set) {
        return noPerson(p) || noPost(q) || set < 0 || set >> t.n() != 0 ? -2 : Math.max(0, wordBy(t, p, q, set, 0));
    }

    /** Sum over all orders of what one adds, and how many orders there are. */
    private long[] orders(int p, int q, int o, List<Integer> left, int set) {
        if (left.isEmpty()) {
            return new long[] {0, 1};
        }
        long[] out = {0, 0};
        for (int c : left) {
            List<Integer> rest = new ArrayList<>(left);
            rest.remove((Integer) c);
            long[] sub = orders(p, q, o, rest, set | 1 << c);
            out[0] += sub[0];
            out[1] += sub[1];
            if (c == o) {
                out[0] += sub[1] * (worth(p, q, set | 1 << c) - worth(p, q, set));
            }
        }
        return out;
    }

    private static long lowest(BigInteger a, BigInteger b, int what) {
        BigInteger g = a.gcd(b);
        return (what == 0 ? a.divide(g) : b.divide(g)).longValueExact();
    }

    public int share(int p, int q, int o, int what) {
        if (noPair(p, o) || noPost(q) || noPart(what)) {
            return -2;
        }
        List<Integer> others = new ArrayList<>();
        for (int c = 0; c < t.n(); c++) {
            if (c != p) {
                others.add(c);
            }
        }
        long[] s = orders(p, q, o, others, 0);
        return (int) lowest(BigInteger.valueOf(s[0]), BigInteger.valueOf(s[1]), what);
    }

    private int[] game(int p, int o, int x, int y) {
        int last = t.n() - 1;
        Told u = x == 1 && p != last ? more(t, p, last, 10) : t;
        u = y == 1 && o != last ? more(u, o, last, 10) : u;
        int[] got = give(u, 0);
        int first = Arrays.stream(got).anyMatch(w -> w == p) ? 9 : 0;
        int second = Arrays.stream(got).anyMatch(w -> w == o) ? 9 : 0;
        return new int[] {first - 4 * x, second - 4 * y};
    }

    public int rests(int p, int o) {
        if (noPair(p, o)) {
            return -2;
        }
        int b = 0;
        for (int x = 0; x < 2; x++) {
            for (int y = 0; y < 2; y++) {
                boolean rest = game(p, o, 1 - x, y)[0] <= game(p, o, x, y)[0]
                    && game(p, o, x, 1 - y)[1] <= game(p, o, x, y)[1];
                b += !rest ? 0 : x == 0 && y == 0 ? 1 : y == 0 ? 2 : x == 0 ? 4 : 8;
            }
        }
        return b;
    }

    public int wins(int p, int o, int x, int y) {
        return noPair(p, o) || noPart(x) || noPart(y) ? -1000 : game(p, o, x, y)[0];
    }

    /** Year by year: the mean of what is asked, over thaws so far. */
    private BigInteger thawing(int y, int thaws, int p, int q) {
        if (y >= t.years - 1) {
            int[] got = give(t, thaws);
            return BigInteger.valueOf(q < 0 ? number(got) : got[q] == p ? 1 : 0);
        }
        return thawing(y + 1, thaws | 1 << y, p, q).multiply(BigInteger.valueOf(t.odds))
            .add(thawing(y + 1, thaws, p, q).multiply(BigInteger.valueOf(10 - t.odds)));
    }

    public long chance(int p, int q, int what) {
        if (noPerson(p) || noPost(q) || noPart(what)) {
            return -2;
        }
        return t.years > 9 ? -3 : lowest(thawing(0, 0, p, q), BigInteger.TEN.pow(t.years - 1), what);
    }

    public long mean(int what) {
        if (none() || noPart(what)) {
            return -2;
        }
        return t.years > 9 ? -3 : lowest(thawing(0, 0, -1, -1), BigInteger.TEN.pow(t.years - 1), what);
    }

    public int wrongs(int p, int o, int n, int y) {
        if (noPair(p, o) || noYear(y) || n < 1 || n > 40) {
            return -1000;
        }
        if (t.acts.size() == 30) {
            return -5;
        }
        t.acts.add(new int[] {p, o, n, y});
        return f(o, p, y);
    }

    public int amends(int p, int o, int y) {
        if (noPair(p, o) || noYear(y)) {
            return -1000;
        }
        if (t.acts.size() == 30) {
            return -5;
        }
        t.acts.add(new int[] {p, o, 0, y});
        return f(o, p, y);
    }

    public int undo() {
        if (none()) {
            return -2;
        }
        if (t.acts.isEmpty()) {
            return -5;
        }
        t.acts.remove(t.acts.size() - 1);
        return t.acts.size();
    }

    public int anew() {
        if (none()) {
            return -2;
        }
        int n = t.acts.size();
        t.acts.clear();
        return n;
    }

    private int thawsOf(long seed) {
        BigInteger x = BigInteger.valueOf(seed);
        int b = 0;
        for (int y = 0; y < t.years - 1; y++) {
            x = x.multiply(BigInteger.valueOf(1103515245)).add(BigInteger.valueOf(12345)).mod(BigInteger.TWO.pow(31));
            b |= x.shiftRight(16).mod(BigInteger.TEN).intValue() < t.odds ? 1 << y : 0;
        }
        return b;
    }

    public int drawn(int seed, int what) {
        if (none() || seed < 0 || seed > 2000000000 || noPart(what)) {
            return -2;
        }
        return what == 0 ? thawsOf(seed) : bits(give(t, thawsOf(seed)));
    }

    public int luck(int seed, int n, int p, int q) {
        if (seed < 0 || seed > 2000000000 || n < 1 || n > 20 || noPerson(p) || noPost(q)) {
            return -2;
        }
        int times = 0;
        for (long s = seed; s < (long) seed + n; s++) {
            times += give(t, thawsOf(s))[q] == p ? 1 : 0;
        }
        return times;
    }

    public int rate(int p, int set) {
        if (noPerson(p) || set < 0 || set > 63) {
            return -2;
        }
        return t.acts.isEmpty() ? t.skills.set(p, set) : -5;
    }

    public int count(int what) {
        int slots = (int) Arrays.stream(rows).filter(r -> r != null).count();
        int[] all = {t.years, t.law, t.odds, t.n(), t.bonds, t.wrongs.size(), t.posts.size(), t.acts.size(), t.lines,
            tape.length(), slots};
        return what < 0 || what > 10 ? -1 : all[what];
    }

    public int image(int k) {
        if (k < 0 || k > 2) {
            return -2;
        }
        images[k] = t.copy();
        return 0;
    }

    public int back(int k) {
        if (k < 0 || k > 2) {
            return -2;
        }
        if (images[k] == null) {
            return -6;
        }
        t = images[k].copy();
        return 0;
    }

    public int row(int slot, int width, int n) {
        if (slot < 0 || slot > 3 || width < 0 || width > 3 || n > 60) {
            return -2;
        }
        if (n < 0) {
            return -3;
        }
        rows[slot] = new long[n];
        widths[slot] = width;
        return 0;
    }

    public int write(int slot, int i, long v) {
        if (slot < 0 || slot > 3) {
            return -2;
        }
        if (rows[slot] == null) {
            return -6;
        }
        if (i < 0 || i >= rows[slot].length) {
            return -7;
        }
        int w = widths[slot];
        rows[slot][i] = w == 0 ? (byte) v : w == 1 ? (short) v : w == 2 ? (int) v : v;
        return 0;
    }

    public int paste(int slot, int i, int to, int k, int n) {
        if (slot < 0 || slot > 3 || to < 0 || to > 3) {
            return -2;
        }
        if (rows[slot] == null || rows[to] == null) {
            return -6;
        }
        if (widths[slot] != widths[to]) {
            return -8;
        }
        if (i < 0 || k < 0 || n < 0 || n > rows[slot].length - i || n > rows[to].length - k) {
            return -7;
        }
        System.arraycopy(rows[slot], i, rows[to], k, n);
        return 0;
    }
}
