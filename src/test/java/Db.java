import java.util.Objects;

/** A store with calls that take texts, for tests; it counts the answers that are not as due. */
final class Db {
    static int wrong = 0;
    static int asked = 0;
    final SqlStore store = new SqlStore();

    /** Puts a text on the tape, in place of what is there. */
    Db tape(String text) {
        byte[] bytes = new byte[text.length()];
        for (int i = 0; i < bytes.length; i++) bytes[i] = (byte) text.charAt(i);
        return tape(bytes);
    }

    Db tape(byte[] bytes) {
        store.trim(0);
        for (int at = 0; at < bytes.length; at += 20) {
            int[] n = new int[5];
            for (int i = 0; i < 20; i++) {
                int b = at + i < bytes.length ? bytes[at + i] & 255 : 32;
                n[i / 4] = n[i / 4] << 8 | b;
            }
            store.feed(n[0], n[1], n[2], n[3], n[4]);
        }
        store.trim(bytes.length);
        return this;
    }

    int prepare(int slot, String text) {
        return tape(text).store.prepare(slot);
    }

    /** Prepares and runs a text in slot 0; returns the code, or -1000 less the error. */
    int sql(String text) {
        int error = prepare(0, text);
        return error != 0 ? -1000 - error : store.run(0);
    }

    /** Runs a text that has to end with code 0. */
    Db ok(String text) {
        due(text, 0, sql(text));
        return this;
    }

    Db code(int want, String text) {
        due(text, want, sql(text));
        return this;
    }

    void error(int error, int place, String text) {
        due(text, error + " at " + place, prepare(0, text) + " at " + store.errorAt());
    }

    /** The rows that a query tells, values parted by blanks, rows by ; */
    String rows(String text) {
        int code = sql(text);
        return code != 0 ? "code " + code : told();
    }

    String told() {
        StringBuilder b = new StringBuilder();
        for (int row = 0; row < store.rows(); row++) {
            if (row > 0) b.append("; ");
            for (int column = 0; column < store.columns(); column++) {
                if (column > 0) b.append(' ');
                b.append(value(row, column));
            }
        }
        return b.toString();
    }

    String value(int row, int column) {
        int kind = store.kindAt(row, column);
        if (kind == 0) return "null";
        if (kind == 1) return Long.toString(store.numberAt(row, column));
        StringBuilder b = new StringBuilder("'");
        for (int i = 0; i < store.lengthAt(row, column); i++) b.append((char) store.byteAt(row, column, i));
        return b.append('\'').toString();
    }

    void query(String want, String text) {
        due(text, want, rows(text));
    }

    static void due(String what, Object want, Object got) {
        asked++;
        if (Objects.equals(want, got)) return;
        wrong++;
        System.out.println(what + "\n  answered " + got + "\n  due is   " + want);
    }

    /** The name of the exception that a call throws, or "nothing". */
    static String thrown(Runnable call) {
        try {
            call.run();
            return "nothing";
        } catch (RuntimeException e) {
            return e.getClass().getSimpleName();
        }
    }

    static void due(String what, String exception, Runnable call) {
        due(what, exception, thrown(call));
    }

    static void end() {
        System.out.println(asked + " asked, " + wrong + " wrong");
        if (wrong > 0) System.exit(1);
    }
}
