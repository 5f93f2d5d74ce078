import java.util.Objects;
import java.util.Random;
import java.util.TreeMap;
import java.util.function.Supplier;

/** SqlStore and PlainStore, of which the same is asked; what both answer is counted. */
final class Both {
    static final TreeMap<String, Integer> COUNTS = new TreeMap<>();
    final Db db = new Db();
    final SqlStore store = db.store;
    final PlainStore plain = new PlainStore();
    /** All calls so far, with the answers that are due. */
    final StringBuilder done = new StringBuilder();
    boolean right = true;

    private static Object answer(Supplier<Object> call) {
        try {
            return call.get();
        } catch (IllegalStateException | IllegalArgumentException | IndexOutOfBoundsException e) {
            return e.getClass().getSimpleName();
        }
    }

    /** Makes a call of both; returns the answer that is due, or the name of the exception. */
    Object same(String what, Supplier<Object> call, Supplier<Object> due) {
        Object got = answer(call);
        Object want = answer(due);
        done.append("\n  ").append(what).append(" -> ").append(want);
        Db.asked++;
        COUNTS.merge(what.split("[ (]")[0] + " " + shown(want), 1, Integer::sum);
        if (Objects.equals(got, want)) return want;
        right = false;
        Db.due(what, want, got);
        return want;
    }

    private static String shown(Object answer) {
        if (answer instanceof String) return answer.toString();
        return answer instanceof Integer n && n > -4 && n < 13 ? n.toString() : "-";
    }

    /** Puts a text on the tapes, in place of what is there. */
    void tape(String text) {
        db.tape(text);
        plain.trim(0);
        for (int at = 0; at < text.length(); at += 20) {
            int[] n = new int[5];
            for (int i = 0; i < 20; i++) n[i / 4] = n[i / 4] << 8 | (at + i < text.length() ? text.charAt(at + i) & 255 : 32);
            plain.feed(n[0], n[1], n[2], n[3], n[4]);
        }
        plain.trim(text.length());
    }

    /** Prepares a text; returns the error. */
    Object prepare(int slot, String text) {
        tape(text);
        Object error = same("prepare " + slot + " " + text, () -> store.prepare(slot), () -> plain.prepare(slot));
        same("errorAt", store::errorAt, plain::errorAt);
        return error;
    }

    Object run(int slot) {
        return same("run " + slot, () -> store.run(slot), () -> plain.run(slot));
    }

    void use(int client) {
        same("use " + client, () -> store.use(client), () -> plain.use(client));
    }

    void digest() {
        same("digest", store::digest, plain::digest);
    }

    /** Sets a parameter to an int, or to a text if it is one for a text. */
    void bind(int slot, int place, long number, String text) {
        Object done = same("bindNumber " + slot + " " + place + " " + number, () -> store.bindNumber(slot, place, number), () -> plain.bindNumber(slot, place, number));
        if (!(done instanceof String)) return;
        tape(text);
        same("bindText " + text, () -> store.bindText(slot, place), () -> plain.bindText(slot, place));
    }

    /** Asks which indices are used, till there is no further source. */
    void indices(int slot) {
        for (int i = -1; i < 13; i++) {
            int source = i;
            Object used = same("indexUsed " + i, () -> store.indexUsed(slot, source), () -> plain.indexUsed(slot, source));
            same("worthOf " + i, () -> store.worthOf(slot, source), () -> plain.worthOf(slot, source));
            if (i >= 0 && !(used instanceof Integer n && n >= -1)) return;
        }
    }

    /** An int, most often a small one. */
    static long number(Random random, int domain) {
        if (random.nextInt(100) < 85) return random.nextInt(domain) - 2;
        switch (random.nextInt(5)) {
            case 0: return Long.MAX_VALUE - random.nextInt(2);
            case 1: return Long.MIN_VALUE + random.nextInt(2);
            case 2: return random.nextLong() >> random.nextInt(64);
            default: return random.nextInt(600) - 300;
        }
    }
}
