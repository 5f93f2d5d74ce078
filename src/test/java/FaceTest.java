/** Promises 1 to 21 and 24 to 27: the calls themselves, at their edges and with wrong inputs. */
public final class FaceTest {
    public static void main(String[] args) {
        newObject();
        feedAndTrim();
        prepare();
        parametersAndBinding();
        useAndRun();
        told();
        transactions();
        Db.end();
    }

    private static void newObject() {
        SqlStore s = new SqlStore();
        Db.due("new: open", true, s.isOpen());
        Db.due("new: client", 0, s.client());
        Db.due("new: errorAt", -1, s.errorAt());
        Db.due("new: code", 0, s.code());
        Db.due("new: rows", 0, s.rows());
        Db.due("new: columns", 0, s.columns());
        Db.due("new: changed", 0, s.changed());
        Db.due("new: steps", 0, s.steps());
        Db.due("new: log", 0, s.logBytes());
        Db.due("new: pages", 2, s.pages());
        Db.due("new: trees", 1, s.trees());
        Db.due("new: writer", -1, s.writer());
        for (int slot = 0; slot < 8; slot++) Db.due("new: slot", -1, s.parameters(slot));
        for (int client = 0; client < 3; client++) Db.due("new: transaction", false, s.inTransaction(client));
        Db.due("new: tape", "IllegalArgumentException", () -> new SqlStore().trim(1));
    }

    private static void feedAndTrim() {
        SqlStore s = new SqlStore();
        int b = '\'' << 24 | 'a' << 16 | 'b' << 8 | 'c';
        Db.due("feed", 20, s.feed(b, b, b, b, -1));
        Db.due("trim", 3, s.trim(3));
        Db.due("feed behind a trim", 23, s.feed(0, 0, 0, 0, 0));
        for (int i = 23; i <= 763; i += 20) s.feed(0, 0, 0, 0, 0);
        Db.due("feed over 800", "IllegalStateException", () -> s.feed(0, 0, 0, 0, 0));
        Db.due("trim to 780", 780, s.trim(780));
        Db.due("feed to 800", 800, s.feed(1, 2, 3, 4, 5));
        Db.due("trim more", "IllegalArgumentException", () -> s.trim(801));
        Db.due("trim less than 0", "IllegalArgumentException", () -> s.trim(-1));
        Db.due("trim to 0", 0, s.trim(0));
        // The bytes stand in their order, the highest one first.
        Db db = new Db();
        db.ok("create table t (a text)");
        db.prepare(1, "insert into t values ($)");
        db.store.feed('0' << 24 | '1' << 16 | '2' << 8 | '3', 'a' << 24 | 'b' << 16 | 'c' << 8 | 'd', 0x65666768, 0x696a6b6c,
            0x6d6e6f70);
        Db.due("bindText of a fed tape", 20, db.store.bindText(1, 0));
        db.store.run(1);
        db.query("'0123abcdefghijklmnop'", "select a from t");
    }

    private static void prepare() {
        Db db = new Db();
        Db.due("prepare", 0, db.prepare(7, "select 1"));
        Db.due("errorAt of none", -1, db.store.errorAt());
        Db.due("prepare empties the tape", "IllegalArgumentException", () -> db.store.trim(1));
        Db.due("prepare with an error", 1, db.prepare(7, "select 1 +"));
        Db.due("errorAt", 10, db.store.errorAt());
        Db.due("an error empties the tape", "IllegalArgumentException", () -> db.store.trim(1));
        Db.due("the slot stays as it was", 0, db.store.run(7));
        Db.due("... and tells", "1", db.told());
        Db.due("prepare 8", "IndexOutOfBoundsException", () -> db.store.prepare(8));
        Db.due("prepare -1", "IndexOutOfBoundsException", () -> db.store.prepare(-1));
        Db.due("errorAt stays behind a throw", 10, db.store.errorAt());
        db.prepare(7, "select 2");
        db.store.run(7);
        Db.due("in place of the other one", "2", db.told());
        db.tape("abc");
        db.store.crash(0, 0);
        Db.due("prepare, closed", "IllegalStateException", () -> db.store.prepare(0));
        Db.due("prepare 8, closed", "IndexOutOfBoundsException", () -> db.store.prepare(8));
        Db.due("a throw leaves the tape", 3, db.store.trim(3));
    }

    private static void parametersAndBinding() {
        Db db = new Db();
        SqlStore s = db.store;
        Db.due("parameters without a statement", -1, s.parameters(0));
        db.prepare(0, "select ?,$,? limit ?");
        Db.due("parameters", 4, s.parameters(0));
        Db.due("parameters 8", "IndexOutOfBoundsException", () -> s.parameters(8));
        Db.due("parameters -1", "IndexOutOfBoundsException", () -> s.parameters(-1));
        s.run(0);
        Db.due("null at first", "null null null", db.told());
        Db.due("bindNumber", 2, s.bindNumber(0, 2, Long.MIN_VALUE));
        Db.due("bindText", 60, db.tape("x".repeat(60)).store.bindText(0, 1));
        s.run(0);
        Db.due("bound", "null '" + "x".repeat(60) + "' -9223372036854775808", db.told());
        Db.due("bindText of none", 0, db.tape("").store.bindText(0, 1));
        Db.due("bindNull", 2, s.bindNull(0, 2));
        s.run(0);
        Db.due("bound anew", "null '' null", db.told());
        s.bindNumber(0, 3, 0);
        s.run(0);
        Db.due("limit 0", 0, s.rows());
        Db.due("columns of no rows", 3, s.columns());
        for (int place : new int[] {-1, 4}) {
            Db.due("bindNumber place", "IllegalArgumentException", () -> s.bindNumber(0, place, 1));
            Db.due("bindText place", "IllegalArgumentException", () -> s.bindText(0, place));
            Db.due("bindNull place", "IllegalArgumentException", () -> s.bindNull(0, place));
        }
        Db.due("an int for $", "IllegalArgumentException", () -> s.bindNumber(0, 1, 1));
        Db.due("a text for ?", "IllegalArgumentException", () -> s.bindText(0, 0));
        db.tape("x".repeat(61));
        Db.due("61 bytes", "IllegalArgumentException", () -> s.bindText(0, 1));
        Db.due("... leave the tape", 61, s.trim(61));
        for (int b : new int[] {31, 127, 128, 255, 10}) {
            db.tape(new byte[] {(byte) b});
            Db.due("byte " + b, "IllegalArgumentException", () -> s.bindText(0, 1));
        }
        db.tape(" ~");
        Db.due("bytes 32 and 126", 2, s.bindText(0, 1));
        Db.due("... empty the tape", "IllegalArgumentException", () -> s.trim(1));
        for (int slot : new int[] {-1, 8}) {
            Db.due("bindNumber slot", "IndexOutOfBoundsException", () -> s.bindNumber(slot, 0, 1));
            Db.due("bindText slot", "IndexOutOfBoundsException", () -> s.bindText(slot, 0));
            Db.due("bindNull slot", "IndexOutOfBoundsException", () -> s.bindNull(slot, 0));
        }
        Db.due("bindNumber without", "IllegalStateException", () -> s.bindNumber(1, 0, 1));
        Db.due("bindText without", "IllegalStateException", () -> s.bindText(1, 0));
        Db.due("bindNull without", "IllegalStateException", () -> s.bindNull(1, 0));
        s.bindNumber(0, 0, 5);
        db.prepare(1, "select ?");
        s.bindNumber(1, 0, 6);
        s.run(0);
        Db.due("each slot has its own", "0", Integer.toString(s.rows()));
        s.bindNull(0, 3);
        s.run(0);
        Db.due("they keep their values", "5 ' ~' null", db.told());
        db.prepare(0, "select ?");
        s.run(0);
        Db.due("a new statement has null", "null", db.told());
    }

    private static void useAndRun() {
        Db db = new Db();
        SqlStore s = db.store;
        Db.due("use", 0, s.use(2));
        Db.due("client", 2, s.client());
        Db.due("use again", 2, s.use(1));
        Db.due("use 3", "IndexOutOfBoundsException", () -> s.use(3));
        Db.due("use -1", "IndexOutOfBoundsException", () -> s.use(-1));
        Db.due("client stays", 1, s.client());
        Db.due("run 8", "IndexOutOfBoundsException", () -> s.run(8));
        Db.due("run -1", "IndexOutOfBoundsException", () -> s.run(-1));
        Db.due("run without", "IllegalStateException", () -> s.run(0));
        db.prepare(0, "select 1");
        Db.due("run", 0, s.run(0));
        s.crash(0, 0);
        Db.due("run, closed", "IllegalStateException", () -> s.run(0));
        Db.due("use, closed", 1, s.use(0));
        s.open();
        Db.due("no statement behind a crash", "IllegalStateException", () -> s.run(0));
    }

    private static void told() {
        Db db = new Db();
        SqlStore s = db.store;
        db.ok("create table t (a int,b text)");
        Db.due("nothing is told of a create", "0 0 0", s.rows() + " " + s.columns() + " " + s.changed());
        db.ok("insert into t values (7,'ab'),(-8,null)");
        Db.due("changed", 2, s.changed());
        db.ok("select a,b from t");
        Db.due("rows", 2, s.rows());
        Db.due("columns", 2, s.columns());
        Db.due("changed by a query", 0, s.changed());
        Db.due("steps", 2, s.steps());
        Db.due("kind of an int", 1, s.kindAt(0, 0));
        Db.due("kind of a text", 2, s.kindAt(0, 1));
        Db.due("kind of null", 0, s.kindAt(1, 1));
        Db.due("number", -8L, s.numberAt(1, 0));
        Db.due("number of a text", 0L, s.numberAt(0, 1));
        Db.due("number of null", 0L, s.numberAt(1, 1));
        Db.due("length", 2, s.lengthAt(0, 1));
        Db.due("length of an int", -1, s.lengthAt(0, 0));
        Db.due("length of null", -1, s.lengthAt(1, 1));
        Db.due("byte", (int) 'b', s.byteAt(0, 1, 1));
        int[][] outside = {{-1, 0}, {2, 0}, {0, -1}, {0, 2}};
        for (int[] p : outside) {
            Db.due("kindAt", "IndexOutOfBoundsException", () -> s.kindAt(p[0], p[1]));
            Db.due("numberAt", "IndexOutOfBoundsException", () -> s.numberAt(p[0], p[1]));
            Db.due("lengthAt", "IndexOutOfBoundsException", () -> s.lengthAt(p[0], p[1]));
            Db.due("byteAt", "IndexOutOfBoundsException", () -> s.byteAt(p[0], p[1], 0));
        }
        Db.due("byteAt 2", "IndexOutOfBoundsException", () -> s.byteAt(0, 1, 2));
        Db.due("byteAt -1", "IndexOutOfBoundsException", () -> s.byteAt(0, 1, -1));
        Db.due("byteAt of an int", "IndexOutOfBoundsException", () -> s.byteAt(0, 0, 0));
        Db.due("byteAt of null", "IndexOutOfBoundsException", () -> s.byteAt(1, 1, 0));
        Db.due("a failed prepare leaves what was told", 1, db.prepare(3, "select"));
        Db.due("... rows", 2, s.rows());
        db.code(11, "commit");
        Db.due("code", 11, s.code());
        Db.due("nothing told with a code", "0 0 0 0", s.rows() + " " + s.columns() + " " + s.changed() + " " + s.steps());
        db.ok("select a from t where a>100");
        Db.due("a query without rows has columns", "0 1", s.rows() + " " + s.columns());
    }

    private static void transactions() {
        Db db = new Db();
        SqlStore s = db.store;
        Db.due("inTransaction 3", "IndexOutOfBoundsException", () -> s.inTransaction(3));
        Db.due("inTransaction -1", "IndexOutOfBoundsException", () -> s.inTransaction(-1));
        Db.due("markOf 3", "IndexOutOfBoundsException", () -> s.markOf(3));
        Db.due("markOf -1", "IndexOutOfBoundsException", () -> s.markOf(-1));
        Db.due("savepoints 3", "IndexOutOfBoundsException", () -> s.savepoints(3));
        Db.due("savepoints -1", "IndexOutOfBoundsException", () -> s.savepoints(-1));
        db.ok("create table t (a int)").ok("begin");
        Db.due("begun", "true false -1 -1 0", s.inTransaction(0) + " " + s.inTransaction(1) + " " + s.markOf(0) + " " + s.writer()
            + " " + s.savepoints(0));
        db.ok("savepoint a").ok("savepoint a").ok("select a from t");
        Db.due("read", "3 -1 2", s.markOf(0) + " " + s.writer() + " " + s.savepoints(0));
        db.ok("insert into t values (1)");
        Db.due("written", "3 0", s.markOf(0) + " " + s.writer());
        db.ok("commit");
        Db.due("ended", "false -1 -1 0", s.inTransaction(0) + " " + s.markOf(0) + " " + s.writer() + " " + s.savepoints(0));
    }
}
