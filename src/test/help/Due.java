import java.nio.ByteBuffer;
import java.nio.charset.StandardCharsets;
import java.util.ArrayList;
import java.util.Arrays;
import java.util.List;

/** What the tests of bounds have in common: answers that are due, lands told, calls that must leave all as it was. */
final class Due {
    interface Call {
        long on(EnemyLetters x);
    }

    /** Three persons, three posts, two years: small enough that all of it can be asked within 512 calls. */
    static final String BUSY = "land years 2 law 1 odds 4;person 0;person 0 1;person;hates 1 0 9;hates 2 0 4;hates 2 1 7;"
        + "likes 0 2 3;wrong 0 2 2 at 1;post at 0 0;post at 1 0;post at 1;";

    private static final boolean[] named = new boolean[79];
    private static int wrong = 0;
    private static int asked = 0;

    private Due() {
    }

    static void due(int promise, String call, long got, long want) {
        asked++;
        named[promise] = true;
        if (got != want) {
            wrong++;
            System.out.println("promise " + promise + ": " + call + " answered " + got + ", due is " + want);
        }
    }

    /** Ends the test; each promise of its part must have been named by a question. */
    static void finish(int first, int last) {
        for (int promise = first; promise <= last; promise++) {
            if (!named[promise]) {
                wrong++;
                System.out.println("promise " + promise + " was not asked for");
            }
        }
        System.out.println(asked + " answers asked for, " + wrong + " not as due");
        if (wrong != 0) {
            System.exit(1);
        }
    }

    static EnemyLetters land(String text) {
        EnemyLetters x = new EnemyLetters();
        tell(x, text);
        return x;
    }

    static int tell(EnemyLetters x, String text) {
        x.end(0);
        feed(x, text);
        return x.land();
    }

    /** Puts a text behind the tape; it is filled up with blanks, which are cut. */
    static int feed(EnemyLetters x, String text) {
        int before = x.count(9);
        byte[] bytes = text.getBytes(StandardCharsets.ISO_8859_1);
        byte[] padded = Arrays.copyOf(bytes, (bytes.length + 19) / 20 * 20);
        ByteBuffer b = ByteBuffer.wrap(padded);
        while (b.remaining() >= 20) {
            x.feed(b.getInt(), b.getInt(), b.getInt(), b.getInt(), b.getInt());
        }
        return x.end(before + bytes.length);
    }

    /** An object in which there is something of each kind: acts, a fault, a tape, images, rows. */
    static EnemyLetters busy() {
        EnemyLetters x = land(BUSY);
        x.image(2);
        x.wrongs(0, 1, 3, 0);
        x.image(0);
        x.amends(0, 2, 1);
        x.wrongs(2, 1, 40, 1);
        x.row(0, 0, 4);
        x.write(0, 1, 1);
        x.write(0, 2, 2);
        x.write(0, 3, -1);
        x.row(1, 0, 3);
        x.row(3, 3, 2);
        x.write(3, 0, 1);
        tell(x, "land ?");
        feed(x, "land years 3 law 0 odds 1;person 2;");
        return x;
    }

    /** The answer of a refused call, and that all is as it would be without it. */
    static void refused(int promise, String name, Call call, long want) {
        refused(promise, name, x -> 0, call, want);
    }

    static void refused(int promise, String name, Call ahead, Call call, long want) {
        EnemyLetters x = busy();
        EnemyLetters y = busy();
        ahead.on(x);
        ahead.on(y);
        due(promise, name + ", refused", call.on(x), want);
        due(promise, name + ": what was there is as it was", same(all(x), all(y)), 1);
    }

    static int same(long[] some, long[] others) {
        return Arrays.equals(some, others) ? 1 : 0;
    }

    /** All that can be seen of a land as BUSY: some 400 calls, the last of which change it. */
    static long[] all(EnemyLetters x) {
        List<Long> seen = new ArrayList<>();
        for (int i = 0; i <= 10; i++) {
            seen.add((long) x.count(i));
        }
        seen.add((long) x.fault(0));
        seen.add((long) x.fault(1));
        byYears(x, seen);
        byPosts(x, seen);
        bySlots(x, seen);
        for (int k = 0; k < 3; k++) {
            seen.add((long) x.back(k));
            byLand(x, seen);
        }
        seen.add((long) x.land());
        seen.add((long) x.fault(1));
        byLand(x, seen);
        return seen.stream().mapToLong(Long::longValue).toArray();
    }

    private static void byYears(EnemyLetters x, List<Long> seen) {
        for (int y = 0; y < 2; y++) {
            for (long v : new long[] {x.bitter(y), x.cold(y), x.all(y), x.hated(y), x.porter(y), x.mutual(y), x.rings(y)}) {
                seen.add(v);
            }
            for (int p = 0; p < 3; p++) {
                for (long v : new long[] {x.enemies(p, y), x.friends(p, y), x.hate(p, y), x.worst(p, y), x.mild(p, y),
                    x.dearest(p, y), x.foe(p, y)}) {
                    seen.add(v);
                }
                seen.add((long) x.feels(p, (p + 1) % 3, y));
                seen.add((long) x.feels(p, (p + 2) % 3, y));
            }
        }
        for (int p = 0; p < 3; p++) {
            int q = (p + 1) % 3;
            for (long v : new long[] {x.steady(p, q), x.sours(p, q), x.years(p, q), x.lowest(p, q), x.rests(p, q)}) {
                seen.add(v);
            }
        }
    }

    private static void byPosts(EnemyLetters x, List<Long> seen) {
        for (int q = 0; q < 3; q++) {
            for (long v : new long[] {x.needs(q), x.year(q), x.top(q), x.next(q), x.gets(q), x.may(q), x.edge(q), x.put(q)}) {
                seen.add(v);
            }
            for (int p = 0; p < 3; p++) {
                for (long v : new long[] {x.word(p, q), x.pens(p, q), x.lacks(p, q), x.target(p, q), x.learns(p, q)}) {
                    seen.add(v);
                }
            }
        }
        for (int p = 0; p < 3; p++) {
            for (long v : new long[] {x.skills(p), x.praise(p), x.harms(p), x.hurts(p), x.has(p), x.writes(p), x.hopes(p)}) {
                seen.add(v);
            }
        }
        for (long v : new long[] {x.first(), x.given(), x.idle(), x.best(), x.ways(), x.law(), x.spare(), x.mean(0),
            x.drawn(7, 1)}) {
            seen.add(v);
        }
    }

    private static void bySlots(EnemyLetters x, List<Long> seen) {
        for (int s = 0; s < 4; s++) {
            for (long v : new long[] {x.laws(s), x.fits(s, 0), x.fits(s, 1), x.surely(s, 0), x.leaves(s, 1)}) {
                seen.add(v);
            }
        }
        // slot 1 has three numbers, so it is read by way of slot 2
        x.row(2, 0, 4);
        x.paste(1, 0, 2, 0, 3);
        for (long v : new long[] {x.laws(2), x.fits(2, 0), x.fits(2, 1), x.surely(2, 0)}) {
            seen.add(v);
        }
    }

    private static void byLand(EnemyLetters x, List<Long> seen) {
        for (int i = 0; i <= 9; i++) {
            seen.add((long) x.count(i));
        }
        for (long v : new long[] {x.feels(1, 0, 0), x.feels(2, 0, 1), x.feels(1, 2, 1), x.skills(0), x.given(), x.best()}) {
            seen.add(v);
        }
    }
}
