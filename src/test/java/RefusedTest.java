import java.lang.reflect.Constructor;
import java.lang.reflect.Field;
import java.lang.reflect.Method;
import java.lang.reflect.Modifier;
import java.util.ArrayList;
import java.util.Arrays;
import java.util.List;
import java.util.TreeSet;

/**
 * Promises 1 to 49: the face itself, and every call that is refused. Each throws the exception that is named first, and
 * changes nothing; at the edge ahead of it the call is not refused.
 */
public final class RefusedTest {
    private static final String INDEX = "IndexOutOfBoundsException";
    private static final String STATE = "IllegalStateException";
    private static final String ARGUMENT = "IllegalArgumentException";
    private static final int LEAST = Integer.MIN_VALUE;
    private static final int GREATEST = Integer.MAX_VALUE;
    private static Db db;
    private static SqlStore s;

    public static void main(String[] args) {
        face();
        feeding();
        trimming();
        slots();
        statements();
        parameters();
        texts();
        clients();
        rows();
        pages();
        trees();
        log();
        crashes();
        pokes();
        closed();
        opened();
        Db.end();
    }

    private static void fresh() {
        db = new Db();
        s = db.store;
    }

    private static void refused(String what, String exception, Runnable call) {
        long before = s.digest();
        Db.due(what, exception, call);
        Db.due(what + " changes nothing", before, s.digest());
    }

    private static void face() {
        String[] due = {"int feed(int,int,int,int,int)", "int trim(int)", "int prepare(int)", "int errorAt()", "int parameters(int)",
            "int bindNumber(int,int,long)", "int bindText(int,int)", "int bindNull(int,int)", "int use(int)", "int client()", "int run(int)",
            "int code()", "int rows()", "int columns()", "int changed()", "int steps()", "int kindAt(int,int)", "long numberAt(int,int)",
            "int lengthAt(int,int)", "int byteAt(int,int,int)", "int indexUsed(int,int)", "int worthOf(int,int)",
            "boolean inTransaction(int)", "int markOf(int)", "int writer()", "int savepoints(int)", "int framesDue()", "int pages()",
            "int freePages()", "int treePages()", "int pageByte(int,int)", "int trees()", "int rootOf(int)", "int levelsOf(int)",
            "int entriesOf(int)", "double meanFill()", "int checkpoint()", "int sync()", "int crash(int,int)", "int poke(int,int)",
            "int open()", "boolean isOpen()", "int logBytes()", "int unsafeBytes()", "int usedFrames()", "int logByte(int)",
            "int fileByte(int,int)", "long digest()"};
        TreeSet<String> found = new TreeSet<>();
        TreeSet<String> hidden = new TreeSet<>();
        for (Method m : SqlStore.class.getDeclaredMethods()) {
            if (m.isSynthetic()) continue;
            List<String> types = new ArrayList<>();
            for (Class<?> c : m.getParameterTypes()) types.add(c.getSimpleName());
            if (Modifier.isPrivate(m.getModifiers())) hidden.add(m.getName());
            else found.add(m.getReturnType().getSimpleName() + " " + m.getName() + "(" + String.join(",", types) + ")");
        }
        Db.due("the methods of the face", new TreeSet<>(Arrays.asList(due)), found);
        for (String call : due) {
            String name = call.substring(call.indexOf(' ') + 1, call.indexOf('('));
            Db.due("a private method is called " + name, false, hidden.contains(name));
        }
        for (Field f : SqlStore.class.getDeclaredFields()) {
            Db.due("field " + f.getName(), true, f.isSynthetic() || Modifier.isPrivate(f.getModifiers()));
        }
        for (Constructor<?> c : SqlStore.class.getDeclaredConstructors()) Db.due("parameters of a constructor", 0, c.getParameterCount());
        Db.due("public and final", true, Modifier.isPublic(SqlStore.class.getModifiers()) && Modifier.isFinal(SqlStore.class.getModifiers()));
    }

    // ---- the tape and statements

    private static void feeding() {
        fresh();
        Db.due("the first twenty", 20, s.feed(0, 0, 0, 0, 0));
        for (int i = 2; i <= 40; i++) Db.due("feed " + i, 20 * i, s.feed(LEAST, GREATEST, -1, 0, 1));
        refused("feed of a full tape", STATE, () -> s.feed(1, 1, 1, 1, 1));
        Db.due("it is still full", 800, s.trim(800));
        s.trim(781);
        refused("feed to 801", STATE, () -> s.feed(1, 1, 1, 1, 1));
        Db.due("781 stay", 781, s.trim(781));
        s.trim(780);
        Db.due("feed to 800", 800, s.feed(1, 1, 1, 1, 1));
        // A closed database has a tape, too.
        s.crash(0, 0);
        refused("feed of a full tape, closed", STATE, () -> s.feed(1, 1, 1, 1, 1));
        s.trim(0);
        Db.due("feed, closed", 20, s.feed(1, 1, 1, 1, 1));
    }

    private static void trimming() {
        fresh();
        Db.due("trim of nothing", 0, s.trim(0));
        refused("trim to 1 of nothing", ARGUMENT, () -> s.trim(1));
        s.feed(1, 2, 3, 4, 5);
        for (int bytes : new int[] {-1, 21, LEAST, GREATEST}) refused("trim to " + bytes, ARGUMENT, () -> s.trim(bytes));
        Db.due("trim to all", 20, s.trim(20));
        Db.due("trim to one less", 19, s.trim(19));
        refused("trim to what was cut off", ARGUMENT, () -> s.trim(20));
        Db.due("trim to nothing", 0, s.trim(0));
    }

    private static void slots() {
        fresh();
        for (int slot : new int[] {0, 7}) {
            Db.due("prepare " + slot, 0, db.prepare(slot, "select ?,$"));
            Db.due("parameters " + slot, 2, s.parameters(slot));
            Db.due("bindNumber " + slot, 0, s.bindNumber(slot, 0, 1));
            db.tape("a");
            Db.due("bindText " + slot, 1, s.bindText(slot, 1));
            Db.due("bindNull " + slot, 1, s.bindNull(slot, 1));
            Db.due("run " + slot, 0, s.run(slot));
            Db.due("indexUsed " + slot, -2, s.indexUsed(slot, 0));
            Db.due("worthOf " + slot, -2, s.worthOf(slot, 0));
        }
        db.tape("select 1");
        for (int slot : new int[] {-1, 8, LEAST, GREATEST}) {
            refused("prepare " + slot, INDEX, () -> s.prepare(slot));
            refused("parameters " + slot, INDEX, () -> s.parameters(slot));
            refused("bindNumber " + slot, INDEX, () -> s.bindNumber(slot, 0, 1));
            refused("bindText " + slot, INDEX, () -> s.bindText(slot, 1));
            refused("bindNull " + slot, INDEX, () -> s.bindNull(slot, 0));
            refused("run " + slot, INDEX, () -> s.run(slot));
            refused("indexUsed " + slot, INDEX, () -> s.indexUsed(slot, 0));
            refused("worthOf " + slot, INDEX, () -> s.worthOf(slot, 0));
        }
        Db.due("the tape stays", 8, s.trim(8));
    }

    private static void statements() {
        fresh();
        db.prepare(3, "select 1 +");
        Db.due("no statement by an error", -1, s.parameters(3));
        refused("bindNumber without", STATE, () -> s.bindNumber(3, -1, 1));
        refused("bindText without", STATE, () -> s.bindText(3, -1));
        refused("bindNull without", STATE, () -> s.bindNull(3, -1));
        refused("run without", STATE, () -> s.run(3));
        refused("indexUsed without", STATE, () -> s.indexUsed(3, 0));
        refused("worthOf without", STATE, () -> s.worthOf(3, 0));
        db.ok("create table t (a int)");
        db.ok("select a from t");
        Db.due("rows of nothing", 0, s.rows());
        refused("run of another slot", STATE, () -> s.run(7));
        Db.due("what was told stays", 1, s.columns());
        db.prepare(1, "select a from t");
        for (int source : new int[] {-1, 1, LEAST, GREATEST}) {
            Db.due("no source " + source, "-2 -2", s.indexUsed(1, source) + " " + s.worthOf(1, source));
        }
        Db.due("source 0", "-1 0", s.indexUsed(1, 0) + " " + s.worthOf(1, 0));
    }

    private static void parameters() {
        fresh();
        db.prepare(0, "select 1");
        for (int place : new int[] {-1, 0, 1, LEAST, GREATEST}) {
            refused("bindNumber of none", ARGUMENT, () -> s.bindNumber(0, place, 1));
            refused("bindText of none", ARGUMENT, () -> s.bindText(0, place));
            refused("bindNull of none", ARGUMENT, () -> s.bindNull(0, place));
        }
        // Twelve parameters, ints and texts in turn.
        db.prepare(0, "select ?,$||$,?,$||$,?,$||$,?,$||$");
        Db.due("twelve", 12, s.parameters(0));
        for (int place = 0; place < 12; place++) {
            int p = place;
            if (place % 3 == 0) {
                Db.due("bindNumber " + p, p, s.bindNumber(0, p, p));
                db.tape("x");
                refused("a text for an int " + p, ARGUMENT, () -> s.bindText(0, p));
                Db.due("the tape stays", 1, s.trim(1));
            } else {
                refused("an int for a text " + p, ARGUMENT, () -> s.bindNumber(0, p, p));
                db.tape("t" + p);
                Db.due("bindText " + p, p < 10 ? 2 : 3, s.bindText(0, p));
            }
        }
        for (int place : new int[] {-1, 12, LEAST, GREATEST}) {
            refused("bindNumber " + place, ARGUMENT, () -> s.bindNumber(0, place, 1));
            refused("bindText " + place, ARGUMENT, () -> s.bindText(0, place));
            refused("bindNull " + place, ARGUMENT, () -> s.bindNull(0, place));
        }
        s.run(0);
        Db.due("what was bound stays", "0 't1t2' 3 't4t5' 6 't7t8' 9 't10t11'", db.told());
        for (int place = 0; place < 12; place++) Db.due("bindNull " + place, place, s.bindNull(0, place));
        s.run(0);
        Db.due("nulls", "null null null null null null null null", db.told());
        // All twelve are null again behind a prepare.
        for (int slot : new int[] {0, 7}) {
            String twelve = "select ?+?+?,?+?+?,?+?+?,?+?+?";
            db.prepare(slot, twelve);
            for (int place = 0; place < 12; place++) s.bindNumber(slot, place, place);
            s.run(slot);
            Db.due("ints", "3 12 21 30", db.told());
            db.prepare(slot, "select coalesce(?,-1),coalesce(?,-1),coalesce(?,-1),coalesce(?,-1),?+?,?+?,?+?,coalesce(?,?)");
            s.run(slot);
            Db.due("nulls behind a prepare", "-1 -1 -1 -1 null null null null", db.told());
        }
        db.prepare(0, "select ?");
        for (long n : new long[] {Long.MIN_VALUE, Long.MAX_VALUE, 0, -1}) {
            s.bindNumber(0, 0, n);
            s.run(0);
            Db.due("the int", n, s.numberAt(0, 0));
        }
    }

    private static void texts() {
        fresh();
        db.prepare(0, "select $");
        db.tape("a".repeat(61));
        refused("61 bytes", ARGUMENT, () -> s.bindText(0, 0));
        Db.due("61 stay on the tape", 61, s.trim(61));
        s.trim(60);
        Db.due("60 bytes", 60, s.bindText(0, 0));
        Db.due("the tape is empty", ARGUMENT, Db.thrown(() -> s.trim(1)));
        Db.due("no bytes", 0, s.bindText(0, 0));
        s.run(0);
        Db.due("an empty text", "''", db.told());
        for (int b = 0; b < 256; b++) {
            byte[] text = {'a', (byte) b, 'b'};
            db.tape(text);
            if (b >= 32 && b <= 126) {
                Db.due("byte " + b, 3, s.bindText(0, 0));
                s.run(0);
                Db.due("byte " + b + " is told", b, s.byteAt(0, 0, 1));
            } else {
                refused("byte " + b, ARGUMENT, () -> s.bindText(0, 0));
                Db.due("byte " + b + " stays on the tape", 3, s.trim(3));
            }
        }
        s.run(0);
        Db.due("the last right text stays", "'a~b'", db.told());
    }

    private static void clients() {
        fresh();
        Db.due("use 2", 0, s.use(2));
        Db.due("use 0", 2, s.use(0));
        for (int client : new int[] {-1, 3, LEAST, GREATEST}) {
            refused("use " + client, INDEX, () -> s.use(client));
            refused("inTransaction " + client, INDEX, () -> s.inTransaction(client));
            refused("markOf " + client, INDEX, () -> s.markOf(client));
            refused("savepoints " + client, INDEX, () -> s.savepoints(client));
        }
        for (int client = 0; client < 3; client++) {
            Db.due("client " + client, "false -1 0", s.inTransaction(client) + " " + s.markOf(client) + " " + s.savepoints(client));
        }
    }

    // ---- what was told

    private static void rows() {
        fresh();
        for (int i : new int[] {-1, 0, 1}) {
            refused("kindAt ahead of all", INDEX, () -> s.kindAt(i, i));
            refused("numberAt ahead of all", INDEX, () -> s.numberAt(i, i));
            refused("lengthAt ahead of all", INDEX, () -> s.lengthAt(i, i));
            refused("byteAt ahead of all", INDEX, () -> s.byteAt(i, i, i));
        }
        db.ok("select 1,'ab',null union all select 2,'',3");
        int[][] outside = {{-1, 0}, {2, 0}, {0, -1}, {0, 3}, {1, 3}, {2, 3}, {LEAST, 0}, {GREATEST, 0}, {0, LEAST}, {0, GREATEST}};
        for (int[] p : outside) {
            refused("kindAt " + p[0] + " " + p[1], INDEX, () -> s.kindAt(p[0], p[1]));
            refused("numberAt " + p[0] + " " + p[1], INDEX, () -> s.numberAt(p[0], p[1]));
            refused("lengthAt " + p[0] + " " + p[1], INDEX, () -> s.lengthAt(p[0], p[1]));
            refused("byteAt " + p[0] + " " + p[1], INDEX, () -> s.byteAt(p[0], p[1], 0));
        }
        int[][] noByte = {{0, 1, -1}, {0, 1, 2}, {0, 1, LEAST}, {0, 1, GREATEST}, {1, 1, 0}, {0, 0, 0}, {0, 2, 0}, {1, 2, 0}};
        for (int[] p : noByte) refused("byteAt", INDEX, () -> s.byteAt(p[0], p[1], p[2]));
        Db.due("the edges", "97 98 1 0 3", s.byteAt(0, 1, 0) + " " + s.byteAt(0, 1, 1) + " " + s.kindAt(0, 0) + " " + s.lengthAt(1, 1) + " "
            + s.numberAt(1, 2));
        // Sixty rows of eight columns.
        String eight = "select a,a,a,a,a,a,a,a from t";
        db.ok("create table t (a int)");
        for (int i = 0; i < 8; i++) db.ok("insert into t values (1),(2),(3),(4),(5),(6),(7)" + (i < 4 ? ",(8)" : ""));
        db.ok(eight);
        Db.due("sixty rows", "60 8 7", s.rows() + " " + s.columns() + " " + s.numberAt(59, 7));
        refused("row 60", INDEX, () -> s.kindAt(60, 7));
        refused("column 8", INDEX, () -> s.kindAt(59, 8));
        // Nothing is told of what is no query, or has a code.
        db.ok("begin");
        refused("kindAt behind begin", INDEX, () -> s.kindAt(0, 0));
        db.code(8, "select a from t union all select 1");
        refused("kindAt behind a code", INDEX, () -> s.kindAt(0, 0));
    }

    // ---- pages and trees

    private static void pages() {
        fresh();
        int[][] outside = {{-1, 0}, {2, 0}, {0, -1}, {0, 256}, {LEAST, 0}, {GREATEST, 0}, {1, LEAST}, {1, GREATEST}, {256, 0}, {59, 0}};
        for (int[] p : outside) refused("pageByte " + p[0] + " " + p[1], INDEX, () -> s.pageByte(p[0], p[1]));
        Db.due("the edges", "7 0 1 0", s.pageByte(0, 0) + " " + s.pageByte(0, 255) + " " + s.pageByte(1, 0) + " " + s.pageByte(1, 255));
        db.ok("create table t (a int)");
        Db.due("a page more", 1, s.pageByte(2, 0));
        refused("pageByte of page 3", INDEX, () -> s.pageByte(3, 0));
        int[][] outsideOfFile = {{-1, 0}, {60, 0}, {0, -1}, {0, 256}, {LEAST, 0}, {GREATEST, 0}, {59, LEAST}, {59, GREATEST}};
        for (int[] p : outsideOfFile) refused("fileByte " + p[0] + " " + p[1], INDEX, () -> s.fileByte(p[0], p[1]));
        Db.due("the edges of the file", "7 0 0", s.fileByte(0, 0) + " " + s.fileByte(59, 0) + " " + s.fileByte(59, 255));
    }

    private static void trees() {
        fresh();
        db.ok("create table t (a int unique)");
        Db.due("trees", 3, s.trees());
        for (int tree : new int[] {-1, 3, LEAST, GREATEST}) {
            refused("rootOf " + tree, INDEX, () -> s.rootOf(tree));
            refused("levelsOf " + tree, INDEX, () -> s.levelsOf(tree));
            refused("entriesOf " + tree, INDEX, () -> s.entriesOf(tree));
        }
        Db.due("the edges", "1 1 2 3 1 0", s.rootOf(0) + " " + s.levelsOf(0) + " " + s.entriesOf(0) + " " + s.rootOf(2) + " " + s.levelsOf(2)
            + " " + s.entriesOf(2));
    }

    // ---- the log

    private static void log() {
        fresh();
        for (int place : new int[] {-1, 0, LEAST, GREATEST}) refused("logByte of an empty log", INDEX, () -> s.logByte(place));
        db.ok("create table t (a int)");
        for (int place : new int[] {-1, 786, LEAST, GREATEST}) refused("logByte " + place, INDEX, () -> s.logByte(place));
        Db.due("the first byte", 0, s.logByte(0));
        Db.due("the last byte", true, s.logByte(785) >= 0);
        refused("open of an open one", STATE, s::open);
        for (int place : new int[] {-1, 0, 786}) refused("poke of an open one", STATE, () -> s.poke(place, 0));
    }

    private static void crashes() {
        fresh();
        int[][] nothing = {{1, 0}, {-1, 0}, {0, 1}, {0, -1}, {LEAST, 0}, {GREATEST, 0}, {0, LEAST}, {0, GREATEST}, {1, 1}};
        for (int[] c : nothing) refused("crash of nothing", ARGUMENT, () -> s.crash(c[0], c[1]));
        db.ok("create table t (a int)");
        int[][] wrong = {{787, 0}, {0, 4}, {1, 1}, {786, 3}, {-1, 3}, {786, -1}, {GREATEST, 0}, {0, GREATEST}};
        for (int[] c : wrong) refused("crash " + c[0] + " " + c[1], ARGUMENT, () -> s.crash(c[0], c[1]));
        s.sync();
        refused("a crash that loses what is safe", ARGUMENT, () -> s.crash(1, 0));
        db.ok("insert into t values (1)");
        refused("a crash that loses more than is unsafe", ARGUMENT, () -> s.crash(263, 0));
        Db.due("as much as is unsafe", 786, s.crash(262, 0));
        refused("crash of a closed one", STATE, () -> s.crash(0, 0));
        s.open();
        Db.due("as many pages as a checkpoint would copy", 786, s.crash(0, 3));
        s.open();
        // A mark of nothing: no page would be copied.
        fresh();
        db.ok("begin").ok("select 1");
        s.use(1);
        db.ok("create table t (a int)");
        refused("no page would be copied", ARGUMENT, () -> s.crash(0, 1));
        s.use(0);
        db.ok("commit");
        Db.due("three would be", 786, s.crash(0, 3));
    }

    private static void pokes() {
        fresh();
        db.ok("create table t (a int)").ok("begin").ok("select a from t");
        s.use(1);
        db.ok("insert into t values (1)");
        s.checkpoint();
        Db.due("three of four frames are used", "3 1048", s.usedFrames() + " " + s.logBytes());
        s.crash(0, 0);
        for (int place : new int[] {-1, 0, 785, 1048, LEAST, GREATEST}) {
            refused("poke " + place, INDEX, () -> s.poke(place, 1));
            refused("poke " + place + " with no mask", INDEX, () -> s.poke(place, 0));
        }
        for (int mask : new int[] {-1, 0, 256, LEAST, GREATEST, 257}) refused("mask " + mask, ARGUMENT, () -> s.poke(786, mask));
        int first = s.logByte(786);
        int last = s.logByte(1047);
        Db.due("the first byte, mask 1", first ^ 1, s.poke(786, 1));
        Db.due("the last byte, mask 255", last ^ 255, s.poke(1047, 255));
        Db.due("the bytes", (first ^ 1) + " " + (last ^ 255), s.logByte(786) + " " + s.logByte(1047));
    }

    // ---- a closed database

    private static void closed() {
        fresh();
        db.ok("create table t (a int)");
        db.prepare(0, "select a from t");
        db.tape("select 1");
        s.crash(0, 0);
        for (int slot : new int[] {-1, 8}) {
            refused("prepare " + slot, INDEX, () -> s.prepare(slot));
            refused("run " + slot, INDEX, () -> s.run(slot));
            refused("indexUsed " + slot, INDEX, () -> s.indexUsed(slot, 0));
            refused("worthOf " + slot, INDEX, () -> s.worthOf(slot, 0));
            refused("parameters " + slot, INDEX, () -> s.parameters(slot));
            refused("bindNumber " + slot, INDEX, () -> s.bindNumber(slot, 0, 0));
        }
        refused("prepare", STATE, () -> s.prepare(0));
        refused("run", STATE, () -> s.run(0));
        refused("indexUsed", STATE, () -> s.indexUsed(0, 0));
        refused("worthOf", STATE, () -> s.worthOf(0, 0));
        refused("bindNumber", STATE, () -> s.bindNumber(0, 0, 0));
        refused("bindText", STATE, () -> s.bindText(0, 0));
        refused("bindNull", STATE, () -> s.bindNull(0, 0));
        Runnable[] calls = {s::framesDue, s::pages, s::freePages, s::treePages, s::trees, s::meanFill, s::checkpoint, s::sync,
            () -> s.pageByte(0, 0), () -> s.pageByte(-1, -1), () -> s.rootOf(0), () -> s.rootOf(-1), () -> s.levelsOf(0), () -> s.levelsOf(9),
            () -> s.entriesOf(0), () -> s.entriesOf(-1), () -> s.crash(0, 0), () -> s.crash(-1, 5)};
        for (int i = 0; i < calls.length; i++) refused("closed, call " + i, STATE, calls[i]);
        Db.due("the tape stays", 8, s.trim(8));
        // What is not refused by a closed one.
        Db.due("what it tells", "false 786 0 0 -1 0 0 0 0 0 -1 -1 0", s.isOpen() + " " + s.logBytes() + " " + s.unsafeBytes() + " "
            + s.usedFrames() + " " + s.errorAt() + " " + s.code() + " " + s.rows() + " " + s.columns() + " " + s.changed() + " " + s.steps()
            + " " + s.writer() + " " + s.parameters(0) + " " + s.client());
        Db.due("client 2", "false -1 0", s.inTransaction(2) + " " + s.markOf(2) + " " + s.savepoints(2));
        Db.due("use", "0 1", s.use(1) + " " + s.client());
        Db.due("bytes", "7 7", s.logByte(2) + " " + s.fileByte(0, 0));
        refused("kindAt", INDEX, () -> s.kindAt(0, 0));
    }

    private static void opened() {
        fresh();
        db.ok("create table t (a int)");
        db.prepare(0, "select a from t");
        s.crash(0, 0);
        Db.due("open", 0, s.open());
        refused("open once more", STATE, s::open);
        refused("run of what was forgotten", STATE, () -> s.run(0));
        db.query("", "select a from t");
    }
}
