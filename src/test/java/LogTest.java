/** Promises 24 to 28 and 38 to 48: transactions of several clients, the log, the file, crashes. */
public final class LogTest {
    private static Db db;
    private static SqlStore s;

    public static void main(String[] args) {
        wrongInputs();
        frames();
        isolation();
        writers();
        savepoints();
        codes();
        fullLog();
        checkpoints();
        syncs();
        crashes();
        crashesInCheckpoints();
        pokes();
        Db.end();
    }

    private static void fresh() {
        db = new Db();
        s = db.store;
    }

    /** Mark, whether a transaction was begun, and savepoints of a client. */
    private static String client(int client) {
        return s.markOf(client) + (s.inTransaction(client) ? " begun " : " none ") + s.savepoints(client);
    }

    private static String log() {
        return s.logBytes() + " " + s.unsafeBytes() + " " + s.usedFrames();
    }

    private static void wrongInputs() {
        fresh();
        Db.due("open of an open one", "IllegalStateException", s::open);
        Db.due("poke of an open one", "IllegalStateException", () -> s.poke(-1, 0));
        Db.due("logByte 0", "IndexOutOfBoundsException", () -> s.logByte(0));
        Db.due("logByte -1", "IndexOutOfBoundsException", () -> s.logByte(-1));
        int[][] outside = {{-1, 0}, {60, 0}, {0, -1}, {0, 256}};
        for (int[] p : outside) Db.due("fileByte", "IndexOutOfBoundsException", () -> s.fileByte(p[0], p[1]));
        int[][] crashes = {{1, 0}, {-1, 0}, {0, 1}, {0, -1}};
        for (int[] p : crashes) Db.due("crash", "IllegalArgumentException", () -> s.crash(p[0], p[1]));
        db.ok("create table t (a int)");
        Db.due("crash with both", "IllegalArgumentException", () -> s.crash(1, 1));
        Db.due("crash with too many pages", "IllegalArgumentException", () -> s.crash(0, 4));
        Db.due("crash with too many bytes", "IllegalArgumentException", () -> s.crash(787, 0));
        Db.due("still open", true, s.isOpen());
        Db.due("crash", 786, s.crash(0, 0));
        Db.due("checkpoint, closed", "IllegalStateException", s::checkpoint);
        Db.due("sync, closed", "IllegalStateException", s::sync);
        Db.due("crash, closed", "IllegalStateException", () -> s.crash(-1, 0));
        for (int place : new int[] {-1, 786}) Db.due("poke", "IndexOutOfBoundsException", () -> s.poke(place, 0));
        for (int mask : new int[] {-1, 0, 256}) Db.due("poke", "IllegalArgumentException", () -> s.poke(0, mask));
        Db.due("open", "0 true", s.open() + " " + s.isOpen());
    }

    private static void frames() {
        fresh();
        Db.due("file at first", "7 2 0 1 0", s.fileByte(0, 0) + " " + s.fileByte(0, 1) + " " + s.fileByte(0, 2) + " " + s.fileByte(1, 0)
            + " " + s.fileByte(2, 0));
        db.ok("create table t (a int)");
        Db.due("three frames", "786 786 0", log());
        // Frames stand by the numbers of their pages; the last one of a commit has a 1.
        Db.due("pages", "0 1 2", s.logByte(0) + " " + s.logByte(262) + " " + s.logByte(524));
        Db.due("last ones", "0 0 1", s.logByte(1) + " " + s.logByte(263) + " " + s.logByte(525));
        Db.due("bytes", "7 3 2 1", s.logByte(2) + " " + s.logByte(3) + " " + s.logByte(264 + 1) + " " + s.logByte(526));
        checks();
        db.ok("insert into t values (5)").ok("insert into t values (6)");
        Db.due("a frame each", "1310 1310 0", log());
        checks();
        db.ok("select a from t").ok("update t set a=a").ok("insert into t select a from t where 0");
        Db.due("nothing is appended", "1310 1310 0", log());
        Db.due("the file stays", 0, s.fileByte(2, 0));
    }

    private static void checks() {
        int c = 17;
        for (int frame = 0; frame < s.logBytes() / 262; frame++) {
            for (int i = 0; i < 258; i++) c = c * 31 + s.logByte(frame * 262 + i) + 1;
            int stands = 0;
            for (int i = 258; i < 262; i++) stands = stands << 8 | s.logByte(frame * 262 + i);
            Db.due("check of frame " + frame, c, stands);
        }
    }

    private static void isolation() {
        fresh();
        db.ok("create table t (a int)").ok("insert into t values (1)");
        s.use(1);
        db.ok("begin");
        Db.due("no mark at first", "-1 begun 0", client(1));
        s.use(0);
        db.ok("insert into t values (2)");
        s.use(1);
        db.query("2", "select count(*) from t");
        Db.due("the newest one at the first look", "5 begun 0", client(1));
        s.use(0);
        db.ok("insert into t values (3)").ok("create table u (a int)");
        s.use(1);
        db.query("2", "select count(*) from t");
        db.error(3, 14, "select 1 from u");
        s.use(2);
        db.query("3", "select count(*) from t");
        Db.due("no mark without begin", "-1 none 0", client(2));
        s.use(1);
        db.code(7, "insert into t values (9)");
        Db.due("busy changes nothing", "5 begun 0 -1", client(1) + " " + s.writer());
        db.ok("commit");
        db.query("3", "select count(*) from t");
        db.ok("insert into t values (9)");
        // A statement that has an error, or is busy, takes no mark.
        db.ok("begin");
        db.prepare(3, "select a from u");
        s.use(0);
        db.ok("drop table u");
        s.use(1);
        Db.due("an error now", 12, s.run(3));
        Db.due("no mark of it", "-1 begun 0", client(1));
        db.code(8, "select p.a from t p,t q,t r,t s");
        Db.due("a mark with code 8", true, s.markOf(1) > 0);
    }

    private static void writers() {
        fresh();
        db.ok("create table t (a int unique)").ok("begin").ok("select a from t");
        Db.due("a query writes nothing", -1, s.writer());
        db.code(0, "insert into t values (1)");
        Db.due("the writer", 0, s.writer());
        s.use(1);
        db.code(7, "insert into t values (2)");
        Db.due("code()", 7, s.code());
        db.code(7, "create table x (a int)");
        db.query("0", "select count(*) from t");
        s.use(2);
        db.ok("begin");
        db.code(7, "delete from t");
        Db.due("busy takes no mark", "-1 begun 0", client(2));
        s.use(0);
        db.code(4, "insert into t values (1)");
        Db.due("mark and writer stay", "4 begun 0 0", client(0) + " " + s.writer());
        db.ok("rollback");
        Db.due("rolled back", "-1 none 0 -1 1048", client(0) + " " + s.writer() + " " + s.logBytes());
        db.query("0", "select count(*) from t");
        s.use(2);
        db.code(4, "insert into t values (7),(7)");
        Db.due("a code makes the writer, too", "4 begun 0 2", client(2) + " " + s.writer());
        db.ok("commit");
        Db.due("nothing to append", 1048, s.logBytes());
        db.code(4, "insert into t values (7),(7)");
        Db.due("without begin it ends", "-1 none 0 -1", client(2) + " " + s.writer());
    }

    private static void savepoints() {
        fresh();
        db.ok("create table t (a int)").ok("begin").ok("savepoint a").ok("insert into t values (1)").ok("savepoint b");
        db.ok("insert into t values (2)").ok("savepoint a").ok("insert into t values (3)").ok("savepoint c");
        Db.due("four", 4, s.savepoints(0));
        db.code(11, "savepoint d");
        db.ok("insert into t values (4)");
        db.ok("rollback to a");
        db.query("1; 2", "select a from t");
        Db.due("it itself stays", 3, s.savepoints(0));
        db.code(11, "rollback to c");
        db.ok("insert into t values (5)").ok("rollback to a");
        db.query("1; 2", "select a from t");
        db.ok("release a");
        Db.due("released", 2, s.savepoints(0));
        db.query("1; 2", "select a from t");
        db.ok("rollback to b");
        db.query("1", "select a from t");
        db.ok("rollback to a");
        db.query("", "select a from t");
        Db.due("still the writer", "0 1 0", s.writer() + " " + s.savepoints(0) + " " + s.framesDue());
        db.ok("insert into t values (6)").ok("savepoint x").ok("savepoint y").ok("release x");
        Db.due("those behind go, too", 1, s.savepoints(0));
        db.ok("commit");
        db.query("6", "select a from t");
        Db.due("none behind a commit", "-1 none 0", client(0));
        // A savepoint ahead of the first look keeps that nothing was changed.
        db.ok("begin").ok("savepoint a");
        s.use(1);
        db.ok("insert into t values (7)");
        s.use(0);
        db.ok("delete from t").ok("rollback to a");
        db.query("6; 7", "select a from t");
        db.ok("commit").ok("begin").ok("savepoint a").ok("select a from t").ok("savepoint b").ok("rollback to a");
        Db.due("without a change", "1 -1", s.savepoints(0) + " " + s.writer());
        // Definitions are kept, too.
        db.ok("savepoint b").ok("create table u (a int)").ok("rollback to b");
        db.error(3, 14, "select 1 from u");
        db.ok("rollback");
    }

    private static void codes() {
        fresh();
        for (String text : new String[] {"commit", "rollback", "rollback to a", "savepoint a", "release a"}) db.code(11, text);
        db.ok("begin");
        db.code(11, "begin");
        db.code(11, "rollback to a");
        db.code(11, "release a");
        Db.due("still begun", "-1 begun 0", client(0));
        db.ok("savepoint a").ok("release a");
        db.code(11, "release a");
        db.ok("rollback");
        Db.due("ended", "-1 none 0", client(0));
        db.ok("begin").ok("commit");
        Db.due("nothing", "0 0 0", log());
    }

    private static void fullLog() {
        fresh();
        db.ok("create table t (a int)").ok("insert into t values (0)");
        for (int i = 1; i < 57; i++) db.ok("update t set a=" + i);
        Db.due("sixty frames", 60 * 262, s.logBytes());
        db.code(9, "insert into t values (2)");
        Db.due("undone", "0 15720 -1", s.changed() + " " + s.logBytes() + " " + s.writer());
        db.query("56", "select a from t");
        db.ok("update t set a=a").ok("begin").ok("insert into t values (3)");
        db.code(9, "commit");
        Db.due("nothing is changed", "60 begun 0 0", client(0) + " " + s.writer());
        db.query("56; 3", "select a from t");
        db.ok("rollback");
        s.checkpoint();
        db.ok("insert into t values (4)");
        Db.due("room again", 262, s.logBytes());
        checks();
    }

    private static void checkpoints() {
        fresh();
        Db.due("nothing to copy", 0, s.checkpoint());
        db.ok("create table t (a int)").ok("insert into t values (1)");
        Db.due("three pages", 3, s.checkpoint());
        Db.due("the log is emptied", "0 0 0", log());
        Db.due("the file", "3 2 1", s.fileByte(0, 1) + " " + s.fileByte(1, 1) + " " + s.fileByte(2, 1));
        db.ok("insert into t values (2)");
        s.use(1);
        db.ok("begin").ok("select a from t");
        s.use(0);
        db.ok("insert into t values (3)").ok("insert into t values (4)");
        Db.due("as the least mark tells", 1, s.checkpoint());
        Db.due("used, and safe", "786 0 1", log());
        Db.due("two rows", 2, s.fileByte(2, 1));
        s.use(2);
        db.ok("begin").ok("select a from t");
        s.use(1);
        db.query("2", "select count(*) from t");
        db.ok("commit");
        Db.due("the next mark", 1, s.checkpoint());
        Db.due("all are used", "786 0 3", log());
        Db.due("four rows", 4, s.fileByte(2, 1));
        s.use(0);
        db.ok("insert into t values (5)");
        s.use(2);
        db.query("4", "select count(*) from t");
        db.ok("rollback");
        Db.due("no mark", "1 0 0 0", s.checkpoint() + " " + log());
        db.query("5", "select count(*) from t");
        // A mark of no frames: nothing is copied.
        db.ok("begin").ok("select a from t");
        s.use(0);
        db.ok("insert into t values (6)");
        Db.due("a mark of 0", "0 262 0 0", s.checkpoint() + " " + log());
        s.use(2);
        db.query("5", "select count(*) from t");
        db.code(7, "insert into t values (7)");
    }

    private static void syncs() {
        fresh();
        Db.due("nothing unsafe", 0, s.sync());
        db.ok("create table t (a int)");
        Db.due("sync", "786 786 0 0", s.sync() + " " + log());
        db.ok("insert into t values (1)");
        Db.due("unsafe", "1048 262 0", log());
        Db.due("no more than unsafe", "IllegalArgumentException", () -> s.crash(263, 0));
        Db.due("sync again", "262 0", s.sync() + " " + s.sync());
    }

    private static void crashes() {
        fresh();
        db.ok("create table t (a int)");
        s.sync();
        db.ok("insert into t values (1)").ok("begin").ok("insert into t values (2)").ok("savepoint a");
        db.prepare(5, "select ?");
        db.tape("abc");
        Db.due("crash", 1047, s.crash(1, 0));
        Db.due("closed", "false 1047 0 0", s.isOpen() + " " + log());
        Db.due("forgotten", "-1 none 0 -1", client(0) + " " + s.writer());
        Db.due("told", "0 0 0 0 0 -1", s.code() + " " + s.rows() + " " + s.columns() + " " + s.changed() + " " + s.steps() + " " + s.errorAt());
        Db.due("no slot", -1, s.parameters(5));
        Db.due("the tape stays", 3, s.trim(3));
        Db.due("what is left is there", 2, s.logByte(786));
        Db.due("open", "261 786 0 0", s.open() + " " + log());
        db.query("0", "select count(*) from t");
        // All of the last commit or nothing.
        db.ok("begin").ok("insert into t values (1)").ok("create table u (a int)").ok("commit");
        int bytes = s.logBytes();
        s.sync();
        db.ok("begin").ok("insert into t values (2)").ok("create table w (a int)").ok("commit");
        int lost = s.unsafeBytes() - 262 - 10;
        s.crash(lost, 0);
        Db.due("a commit without its last frame", bytes + 272, s.logBytes());
        Db.due("is cut off", 272, s.open());
        db.query("1", "select count(*) from t");
        db.ok("select 1 from u");
        db.error(3, 14, "select 1 from w");
        db.ok("insert into t values (3)");
        checks();
        s.use(2);
        s.crash(0, 0);
        Db.due("the client in use stays", 2, s.client());
        Db.due("nothing lost", 0, s.open());
        db.query("2", "select count(*) from t");
        s.crash(s.unsafeBytes(), 0);
        s.open();
        db.query("2", "select count(*) from t");
    }

    private static void crashesInCheckpoints() {
        fresh();
        db.ok("create table t (a int)").ok("insert into t values (1)");
        Db.due("crash in a checkpoint", 1048, s.crash(0, 2));
        Db.due("used frames", "1048 0 4", log());
        Db.due("the first pages", "3 2 0", s.fileByte(0, 1) + " " + s.fileByte(1, 1) + " " + s.fileByte(2, 1));
        for (int place : new int[] {0, 1047}) Db.due("poke of a used frame", "IndexOutOfBoundsException", () -> s.poke(place, 1));
        Db.due("open", "0 4", s.open() + " " + s.usedFrames());
        db.query("1", "select count(*) from t");
        db.ok("insert into t values (2)");
        s.use(1);
        db.ok("begin").ok("select a from t");
        s.use(0);
        db.ok("insert into t values (3)");
        Db.due("ahead of a mark", 1572, s.crash(0, 3));
        Db.due("frames ahead of it are used", "1572 0 5", log());
        Db.due("as it tells", 2, s.fileByte(2, 1));
        Db.due("poke behind it", 0, s.poke(1310 + 1, 1));
        Db.due("open", 262, s.open());
        db.query("2", "select count(*) from t");
        Db.due("checkpoint", 3, s.checkpoint());
    }

    private static void pokes() {
        fresh();
        db.ok("create table t (a int)").ok("insert into t values (1)").ok("insert into t values (2)");
        s.crash(0, 0);
        Db.due("poke", 7 ^ 255, s.poke(2, 255));
        Db.due("the byte", 248, s.logByte(2));
        Db.due("poke back", 7, s.poke(2, 255));
        Db.due("the same bytes are good", 0, s.open());
        db.query("2", "select count(*) from t");
        s.crash(0, 0);
        s.poke(262 * 3 + 258, 128);
        Db.due("a check that is not as it was", 524, s.open());
        db.query("0", "select count(*) from t");
        // Bytes that make the same check are not those that were appended.
        db.ok("insert into t values (3)");
        s.crash(0, 0);
        int place = 786 + 2 + 200;
        s.poke(place, 1);
        s.poke(place + 1, 31);
        Db.due("other bytes", 262, s.open());
        db.ok("insert into t values (4)");
        checks();
        s.crash(0, 0);
        s.poke(1, 1);
        Db.due("all is cut off", 1048, s.open());
        Db.due("as at first", "2 1", s.pages() + " " + s.trees());
        db.error(3, 14, "select 1 from t");
    }
}
