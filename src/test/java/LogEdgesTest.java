/** Promises 10 to 13, 24 to 28 and 38 to 49: the edges that the document names of clients, the log, the file, and crashes. */
public final class LogEdgesTest {
    private static final int FRAME = 262;
    private static Db db;
    private static SqlStore s;

    public static void main(String[] args) {
        atFirst();
        framesOfCommits();
        checks();
        marks();
        marksThatAreNot();
        busyByTheWriter();
        busyByTheMark();
        errorsComeFirst();
        commits();
        commitsOfNothing();
        sixtyFrames();
        sixtyFramesAtOnce();
        sixtyPagesAtOnce();
        lastPageUndone();
        othersLookInBetween();
        rollbacks();
        fourSavepoints();
        savepointsOfOneName();
        savepointsAheadOfTheMark();
        savepointsOfOthers();
        code11();
        checkpoints();
        checkpointsWithMarks();
        checkpointsOfAnyClient();
        checkpointsOfLeastMarks();
        unsafeBytes();
        lostBytes();
        lostCommits();
        crashesInCheckpoints();
        crashesInCheckpointsWithMarks();
        whatACrashForgets();
        pokes();
        pokesOfSeveralFrames();
        opened();
        wholeLogLost();
        slots();
        stepsAndCodes();
        digests();
        Db.end();
    }

    private static void fresh(String... texts) {
        db = new Db();
        s = db.store;
        for (String t : texts) db.ok(t);
    }

    private static String log() {
        return frames() + " " + s.unsafeBytes() + " " + s.usedFrames();
    }

    /** Whole frames, and the bytes behind them. */
    private static String frames() {
        return s.logBytes() / FRAME + "+" + s.logBytes() % FRAME;
    }

    private static String client(int client) {
        return s.markOf(client) + (s.inTransaction(client) ? " begun " : " none ") + s.savepoints(client);
    }

    private static void as(int client, String text, int code) {
        s.use(client);
        db.code(code, text);
    }

    private static void rows(String want) {
        db.query(want, "select a from t");
    }

    // ---- the log

    /** The file has 60 pages; at first pages 0 and 1 as told, all others full of zeros; an empty log. */
    private static void atFirst() {
        fresh();
        long sum = 0;
        for (int page = 0; page < 60; page++) {
            for (int i = 0; i < 256; i++) sum += s.fileByte(page, i);
        }
        Db.due("the file", "7 2 1 10", s.fileByte(0, 0) + " " + s.fileByte(0, 1) + " " + s.fileByte(1, 0) + " " + sum);
        Db.due("the log", "0+0 0 0", log());
        Db.due("clients", "-1 none 0 -1 none 0 -1 none 0 -1 0", client(0) + " " + client(1) + " " + client(2) + " " + s.writer() + " " + s.client());
    }

    /** A frame: the number of a page; 1, if it is the last one of a commit, else 0; the 256 bytes of the page; a check. */
    private static void framesOfCommits() {
        fresh("create table t (a int)");
        Db.due("three frames", "3+0 786 0", log());
        for (int frame = 0; frame < 3; frame++) {
            Db.due("page of frame " + frame, frame, s.logByte(frame * FRAME));
            Db.due("last of frame " + frame, frame == 2 ? 1 : 0, s.logByte(frame * FRAME + 1));
            for (int i = 0; i < 256; i++) {
                if (s.pageByte(frame, i) != s.logByte(frame * FRAME + 2 + i)) Db.due("byte " + i, s.pageByte(frame, i), s.logByte(frame * FRAME + 2 + i));
            }
        }
        db.ok("insert into t values (1)");
        Db.due("one frame", "4+0 2 1", s.logBytes() / FRAME + "+0 " + s.logByte(3 * FRAME) + " " + s.logByte(3 * FRAME + 1));
        db.ok("begin").ok("insert into t values (2)").ok("create table u (a int)").ok("insert into u values (5)").ok("commit");
        // Pages 0, 1, 2 and 3, by their numbers.
        StringBuilder b = new StringBuilder();
        for (int frame = 4; frame < 8; frame++) b.append(s.logByte(frame * FRAME)).append(s.logByte(frame * FRAME + 1)).append(' ');
        Db.due("four frames", "8+0 00 10 20 31 ", s.logBytes() / FRAME + "+0 " + b);
    }

    /** c starts with 17 for the first frame, and with the check of the frame ahead for another one; it wraps around. */
    private static void checks() {
        check("all", 0);
        s.checkpoint();
        db.ok("insert into t values (7)").ok("insert into u values (8)");
        check("behind a checkpoint", 0);
        s.crash(0, 0);
        s.open();
        db.ok("insert into u values (9)");
        check("behind a crash", 0);
        Db.due("three frames", "3+0 262 0", log());
        s.crash(1, 0);
        s.open();
        db.ok("insert into t values (9)");
        check("behind what was cut off", 0);
        Db.due("the bytes of a check are 0 to 255", true, s.logByte(FRAME - 1) >= 0 && s.logByte(FRAME - 4) <= 255);
    }

    private static void check(String what, int from) {
        long c = 17;
        for (int frame = from; frame < s.logBytes() / FRAME; frame++) {
            for (int i = 0; i < 258; i++) c = (c * 31 + s.logByte(frame * FRAME + i) + 1) % (1L << 32);
            long stands = 0;
            for (int i = 258; i < FRAME; i++) stands = stands * 256 + s.logByte(frame * FRAME + i);
            Db.due("check of frame " + frame + ", " + what, c, stands);
        }
    }

    // ---- marks and the writer

    /** A transaction has no mark at first; it gets the newest one as its first statement is run that is none of the five. */
    private static void marks() {
        fresh("create table t (a int)");
        s.use(1);
        db.ok("begin").ok("savepoint p").ok("rollback to p").ok("release p");
        Db.due("no mark by the five", "-1 begun 0", client(1));
        as(0, "insert into t values (1)", 0);
        as(1, "select a from t", 0);
        Db.due("the newest mark", "4 begun 0", client(1));
        rows("1");
        as(0, "insert into t values (2)", 0);
        s.use(1);
        rows("1");
        Db.due("it stays", "4 begun 0", client(1));
        s.use(0);
        rows("1; 2");
        Db.due("without begin none is left", "-1 none 0", client(0));
        // A mark of no frames is a mark.
        s.use(1);
        db.ok("commit");
        s.checkpoint();
        db.ok("begin").ok("select 1");
        Db.due("a mark of 0", "0 begun 0", client(1));
        as(0, "insert into t values (3)", 0);
        s.use(1);
        rows("1; 2");
        // A write takes a mark, too, and so does a statement that ends with a code.
        as(1, "rollback", 0);
        db.ok("begin").code(8, "select 1 from t x,t y,t z,t k union all select 1 from t x,t y,t z,t k");
        Db.due("a mark with code 8", 1, s.markOf(1));
    }

    /** Code 12, and code 7, change nothing: no mark is taken, and no writer is made. */
    private static void marksThatAreNot() {
        fresh("create table t (a int)", "begin");
        db.prepare(3, "select a from t");
        db.prepare(4, "insert into t values (1)");
        as(1, "drop table t", 0);
        s.use(0);
        Db.due("code 12", "12 12", s.run(3) + " " + s.run(4));
        Db.due("no mark, no writer", "-1 begun 0 -1", client(0) + " " + s.writer());
        as(1, "create table t (a int)", 0);
        db.ok("begin").ok("insert into t values (5)");
        s.use(0);
        Db.due("code 7", "7 7", s.run(4) + " " + s.code());
        Db.due("no mark, another writer", "-1 begun 0 1", client(0) + " " + s.writer());
        Db.due("what is told with code 7", "0 0 0 0", s.rows() + " " + s.columns() + " " + s.changed() + " " + s.steps());
    }

    /** Code 7, if another client is the writer. */
    private static void busyByTheWriter() {
        fresh("create table t (a int unique)", "begin", "insert into t values (1)");
        Db.due("the writer", 0, s.writer());
        String[] busy = {"insert into t values (2)", "update t set a=1", "delete from t", "create table u (a int)", "create index i on t(a)",
            "create view v as select 1 as a", "drop table t"};
        for (int client = 1; client <= 2; client++) {
            for (String text : busy) as(client, text, 7);
            Db.due("client " + client, "-1 none 0", client(client));
            rows("");
            db.ok("begin");
            for (String text : busy) as(client, text, 7);
            Db.due("client " + client + " begun", "-1 begun 0", client(client));
            rows("");
        }
        as(0, "commit", 0);
        Db.due("no writer", -1, s.writer());
        // Their marks are not the newest one now.
        as(1, "delete from t", 7);
        as(1, "commit", 0);
        as(1, "delete from t", 0);
    }

    /** Code 7, if the client has a mark that is not the newest one. */
    private static void busyByTheMark() {
        fresh("create table t (a int)");
        s.use(1);
        db.ok("begin").ok("select a from t");
        as(0, "insert into t values (1)", 0);
        as(1, "insert into t values (2)", 7);
        Db.due("not the writer", "3 begun 0 -1", client(1) + " " + s.writer());
        rows("");
        as(1, "rollback", 0);
        as(1, "insert into t values (2)", 0);
        // Another one that changes nothing leaves the newest mark as it is.
        db.ok("begin").ok("select a from t");
        as(0, "update t set a=a", 0);
        as(0, "insert into t select a from t where 0", 0);
        as(1, "insert into t values (3)", 0);
        Db.due("the writer", 1, s.writer());
        as(1, "commit", 0);
        // A checkpoint leaves marks as they are.
        db.ok("begin").ok("select a from t");
        s.checkpoint();
        as(1, "insert into t values (4)", 0);
        as(1, "commit", 0);
        rows("1; 2; 3; 4");
    }

    /** Checked anew: code 12, if there is an error; then code 7, if it applies. */
    private static void errorsComeFirst() {
        fresh("create table t (a int)");
        db.prepare(3, "insert into t values (1)");
        db.ok("drop table t").ok("create table u (a int)").ok("begin").ok("insert into u values (1)");
        s.use(1);
        Db.due("code 12 ahead of code 7", 12, s.run(3));
        db.code(7, "insert into u values (2)");
        Db.due("a query is never busy", 0, db.sql("select a from u"));
    }

    // ---- commit and rollback

    /** The pages that are not as the mark tells are appended by their numbers. */
    private static void commits() {
        fresh("create table t (a int)", "begin", "insert into t values (1)", "insert into t values (2)", "delete from t where a=1");
        Db.due("one page", 1, s.framesDue());
        db.ok("commit");
        Db.due("one frame", "4+0 1048 0", log());
        Db.due("ended", "-1 none 0 -1", client(0) + " " + s.writer());
        rows("2");
        // The pages that a statement has changed back are not appended.
        db.ok("begin").ok("insert into t values (3)").ok("delete from t where a=3").ok("commit");
        Db.due("as it was", "4+0 1048 0", log());
        db.ok("begin").ok("update t set a=5").ok("update t set a=2").ok("create table u (a int)").ok("drop table u").ok("commit");
        // Page 3 is free, and the head tells of one page more.
        Db.due("the head", "5+0 0", frames() + " " + s.logByte(4 * FRAME));
    }

    private static void commitsOfNothing() {
        fresh("begin", "commit");
        Db.due("nothing", "0+0 0 0", log());
        fresh("create table t (a int)", "begin", "select a from t", "commit", "begin", "delete from t", "commit");
        Db.due("nothing more", "3+0 786 0 -1", log() + " " + s.writer());
    }

    /** If the log would have more than 60 frames, the code is 9, and nothing is changed. */
    private static void sixtyFrames() {
        fresh("create table t (a int)", "insert into t values (0)");
        for (int i = 1; i <= 55; i++) db.ok("update t set a=" + i);
        Db.due("59 frames", "59+0", frames());
        db.ok("update t set a=56");
        Db.due("60 frames", "60+0", frames());
        long before = s.digest();
        db.code(9, "update t set a=57");
        Db.due("undone", "60+0 0 0 1", frames() + " " + s.changed() + " " + s.rows() + " " + s.steps());
        Db.due("not the writer", "-1 none 0 -1", client(0) + " " + s.writer());
        rows("56");
        Db.due("only what was told is another thing", false, before == s.digest());
        // Without a change there is nothing to append.
        db.ok("update t set a=56");
        db.ok("begin").ok("update t set a=57");
        db.code(9, "commit");
        Db.due("nothing is changed by it", "60 begun 0 0 1", client(0) + " " + s.writer() + " " + s.framesDue());
        rows("57");
        db.ok("savepoint p").ok("update t set a=58").ok("rollback to p");
        db.code(9, "commit");
        Db.due("the savepoint stays", 1, s.savepoints(0));
        db.ok("update t set a=56").ok("commit");
        rows("56");
        db.ok("begin").ok("update t set a=57");
        // Its mark keeps the log from being emptied.
        Db.due("a checkpoint with a mark", "3 60+0 0 60", s.checkpoint() + " " + log());
        db.code(9, "commit");
        db.ok("rollback");
        Db.due("a checkpoint without", "3 0+0 0 0", s.checkpoint() + " " + log());
        db.ok("update t set a=57");
        Db.due("room again", "1+0 262 0", log());
        check("behind it", 0);
    }

    /** A commit of several frames is appended as a whole or not at all. */
    private static void sixtyFramesAtOnce() {
        fresh("create table t (a int)", "create table u (a int)", "insert into t values (0)", "insert into u values (0)");
        for (int i = 1; i <= 50; i++) db.ok("update t set a=" + i);
        Db.due("58 frames", "58+0", frames());
        db.ok("begin").ok("update t set a=0").ok("update u set a=1").ok("commit");
        Db.due("two more", "60+0", frames());
        s.checkpoint();
        for (int i = 1; i <= 59; i++) db.ok("update t set a=" + i);
        db.ok("begin").ok("update t set a=0").ok("update u set a=2");
        Db.due("two are due", 2, s.framesDue());
        db.code(9, "commit");
        Db.due("59 frames still", "59+0", frames());
        db.ok("update u set a=1").ok("commit");
        Db.due("one of them", "60+0", frames());
        db.query("0 1", "select t.a,u.a from t,u");
        db.code(9, "create table w (a int)");
        Db.due("nothing made", 3, s.trees());
    }

    /** Makes all 60 pages in one transaction: leaves of five cells of 29 bytes, the last of which, page 59, has eight. */
    private static void sixtyPages() {
        fresh("begin", "create table t (a text)");
        for (int i = 0; i < 288; i++) db.ok("insert into t values ('" + text(i) + "')");
        Db.due("60 pages", "60 8", s.pages() + " " + s.pageByte(59, 1));
    }

    /** Sixty frames of one commit; all of them are copied by a checkpoint, or so many as are told. */
    private static void sixtyPagesAtOnce() {
        sixtyPages();
        Db.due("all are due", 60, s.framesDue());
        db.ok("commit");
        Db.due("60 frames", "60+0", frames());
        for (int page = 0; page < 60; page++) {
            Db.due("frame " + page, page + " " + (page == 59 ? 1 : 0), s.logByte(page * FRAME) + " " + s.logByte(page * FRAME + 1));
        }
        check("sixty", 0);
        Db.due("61 pages", "IllegalArgumentException", () -> s.crash(0, 61));
        long before = pageSum();
        s.crash(0, 60);
        Db.due("the last page of the file", 1, s.fileByte(59, 0));
        Db.due("open", 0, s.open());
        Db.due("the same pages", before, pageSum());
        Db.due("checkpoint", 60, s.checkpoint());
        Db.due("the same pages of the file", before, pageSum());
        s.crash(0, 0);
        Db.due("nothing to cut off", 0, s.open());
        Db.due("the same pages again", before, pageSum());
        sixtyPages();
        db.ok("commit");
        s.crash(0, 59);
        Db.due("all but the last page", "1 0", s.fileByte(58, 0) + " " + s.fileByte(59, 0));
        s.open();
        Db.due("the last page is in the log", 1, s.pageByte(59, 0));
        Db.due("checkpoint", "60 1", s.checkpoint() + " " + s.fileByte(59, 0));
    }

    private static long pageSum() {
        long d = 0;
        for (int page = 0; page < s.pages(); page++) {
            for (int i = 0; i < 256; i++) d = d * 31 + s.pageByte(page, i);
        }
        return d;
    }

    /** What is undone is undone up to the last byte of the last page. */
    private static void lastPageUndone() {
        sixtyPages();
        db.ok("commit");
        s.checkpoint();
        long before = pageSum();
        String last = "'" + text(287) + "'";
        db.ok("begin").ok("select 1").ok("savepoint p").code(9, "insert into t values ('" + text(288) + "')");
        Db.due("a code undoes what is full", before, pageSum());
        db.ok("update t set a='z' where a=" + last);
        Db.due("page 59 is due", 1, s.framesDue());
        long changed = pageSum();
        db.ok("savepoint q").ok("delete from t where a>='" + text(285) + "'");
        Db.due("three rows less", 5, s.pageByte(59, 1));
        long less = pageSum();
        db.code(9, "insert into t values ('y1" + "x".repeat(22) + "'),('y2" + "x".repeat(22) + "'),('y3" + "x".repeat(22) + "'),('y4" + "x".repeat(22) + "')");
        Db.due("a code undoes it", less, pageSum());
        db.ok("rollback to q");
        Db.due("rolled back to q", changed, pageSum());
        db.ok("rollback to p");
        Db.due("rolled back to p", before, pageSum());
        Db.due("nothing is due", 0, s.framesDue());
        db.ok("delete from t where a=" + last).ok("rollback");
        Db.due("rolled back", before, pageSum());
        db.code(9, "insert into t values ('" + text(288) + "')");
        Db.due("undone", before, pageSum());
    }

    private static String text(int i) {
        return ("" + (1000 + i)).substring(1) + "x".repeat(21);
    }

    /** What is due, appended and rolled back is reckoned by the own mark, whatever another client has looked at in between. */
    private static void othersLookInBetween() {
        for (int kind = 0; kind < 4; kind++) {
            fresh("create table t (a int)", "create table u (a int)", "insert into t values (1)", "insert into u values (1)");
            s.use(1);
            db.ok("begin").ok("select a from t");
            as(0, "insert into t values (2)", 0);
            as(0, "insert into u values (2)", 0);
            int frames = s.logBytes() / FRAME;
            db.ok("begin").ok("savepoint p").ok("insert into t values (3)");
            as(1, "select a from t", 0);
            rows("1");
            s.use(0);
            if (kind == 0) Db.due("one page is due", 1, s.framesDue());
            if (kind == 1) db.ok("rollback to p");
            if (kind == 3) {
                as(1, "savepoint p", 0);
                as(1, "rollback to p", 0);
                s.use(0);
                rows("1; 2; 3");
                s.use(1);
                rows("1");
            }
            as(0, "commit", 0);
            Db.due("frames", frames + (kind == 1 ? 0 : 1), s.logBytes() / FRAME);
            rows(kind == 1 ? "1; 2" : "1; 2; 3");
            db.query("1; 2", "select a from u");
            check("behind another look", 0);
        }
    }

    /** rollback: what it has changed is forgotten. */
    private static void rollbacks() {
        fresh("create table t (a int)", "begin", "insert into t values (1)", "create table u (a int)", "savepoint p");
        Db.due("changed", "4 4", s.pages() + " " + s.framesDue());
        db.ok("rollback");
        Db.due("forgotten", "3 0 -1 none 0 -1", s.pages() + " " + s.framesDue() + " " + client(0) + " " + s.writer());
        rows("");
        Db.due("no table u", 3, db.prepare(3, "select 1 from u"));
        Db.due("the log", "3+0 786 0", log());
        db.ok("begin").ok("rollback");
        Db.due("nothing to forget", "-1 none 0", client(0));
    }

    // ---- savepoints

    /** A transaction has at most 4; a fifth is code 11. */
    private static void fourSavepoints() {
        fresh("create table t (a int)", "begin", "savepoint a", "savepoint b", "savepoint c", "savepoint d");
        Db.due("four", 4, s.savepoints(0));
        db.code(11, "savepoint e");
        db.code(11, "savepoint a");
        Db.due("still four", 4, s.savepoints(0));
        db.ok("release d").ok("savepoint e");
        Db.due("four again", 4, s.savepoints(0));
        db.ok("rollback to b");
        Db.due("two are left", 2, s.savepoints(0));
        db.code(11, "rollback to c");
        db.code(11, "release e");
        db.ok("release a");
        Db.due("none is left", 0, s.savepoints(0));
        db.code(11, "release b");
        db.ok("commit");
        Db.due("none without a transaction", 0, s.savepoints(0));
        // Each client has its own.
        db.ok("begin").ok("savepoint a").ok("savepoint a").ok("savepoint a").ok("savepoint a");
        as(1, "begin", 0);
        for (int i = 0; i < 4; i++) as(1, "savepoint a", 0);
        as(1, "savepoint a", 11);
        Db.due("four each", "4 4 0", s.savepoints(0) + " " + s.savepoints(1) + " " + s.savepoints(2));
    }

    /** rollback to, and release: the last one with this name. */
    private static void savepointsOfOneName() {
        fresh("create table t (a int)", "begin", "insert into t values (1)", "savepoint p", "insert into t values (2)", "savepoint q",
            "insert into t values (3)", "savepoint p", "insert into t values (4)");
        db.ok("rollback to p");
        rows("1; 2; 3");
        Db.due("it itself stays", 3, s.savepoints(0));
        db.ok("insert into t values (5)").ok("rollback to p");
        rows("1; 2; 3");
        db.ok("release p");
        Db.due("the last one is gone", 2, s.savepoints(0));
        rows("1; 2; 3");
        db.ok("rollback to p");
        rows("1");
        Db.due("the first one", 1, s.savepoints(0));
        db.ok("insert into t values (6)").ok("savepoint r").ok("insert into t values (7)").ok("release p");
        Db.due("those behind it, too", 0, s.savepoints(0));
        db.ok("commit");
        rows("1; 6; 7");
    }

    /** All other pages are as its mark tells. */
    private static void savepointsAheadOfTheMark() {
        fresh("create table t (a int)", "insert into t values (1)", "begin", "savepoint p");
        as(1, "insert into t values (2)", 0);
        as(0, "rollback to p", 0);
        Db.due("still no mark", "-1 begun 1", client(0));
        db.ok("insert into t values (3)");
        rows("1; 2; 3");
        db.ok("rollback to p");
        rows("1; 2");
        Db.due("the mark, the writer and the savepoint stay", "5 begun 1 0 0", client(0) + " " + s.writer() + " " + s.framesDue());
        as(1, "insert into t values (4)", 7);
        as(0, "commit", 0);
        Db.due("nothing appended", "5+0", frames());
        as(1, "insert into t values (4)", 0);
        rows("1; 2; 4");
    }

    /** What another client keeps is its own, also if one ends, and the other becomes the writer. */
    private static void savepointsOfOthers() {
        fresh("create table t (a int)");
        s.use(1);
        db.ok("begin").ok("savepoint p");
        s.use(0);
        db.ok("begin").ok("insert into t values (1)").ok("savepoint p").ok("insert into t values (2)");
        as(1, "savepoint q", 0);
        as(1, "rollback to p", 0);
        as(0, "rollback to p", 0);
        rows("1");
        as(0, "commit", 0);
        as(1, "insert into t values (3)", 0);
        as(1, "savepoint q", 0);
        as(1, "delete from t", 0);
        as(1, "rollback to q", 0);
        rows("1; 3");
        as(1, "rollback to p", 0);
        rows("1");
        as(1, "rollback", 0);
        rows("1");
    }

    /** Code 11: begin in a transaction; commit, rollback, savepoint or release without one (also with to); a name that is none. */
    private static void code11() {
        fresh("create table t (a int)");
        for (String text : new String[] {"commit", "rollback", "rollback to p", "savepoint p", "release p"}) {
            db.ok("select 1").code(11, text);
            Db.due("what is told", "11 0 0 0 0", s.code() + " " + s.rows() + " " + s.columns() + " " + s.changed() + " " + s.steps());
        }
        Db.due("no transaction", "-1 none 0", client(0));
        db.ok("begin").code(11, "begin").code(11, "rollback to p").code(11, "release p");
        Db.due("still begun", "-1 begun 0", client(0));
        db.ok("savepoint p").code(11, "rollback to q").code(11, "release q").ok("insert into t values (1)").code(11, "begin");
        rows("1");
        as(1, "commit", 11);
        as(1, "rollback to p", 11);
        as(0, "rollback to p", 0);
        rows("");
    }

    // ---- the file

    /** Each page with a frame among so many first ones is copied; if now no client has a mark, the log is emptied. */
    private static void checkpoints() {
        fresh();
        Db.due("nothing to copy", "0 0+0 0 0", s.checkpoint() + " " + log());
        db.ok("create table t (a int)");
        Db.due("three pages", "3 0+0 0 0", s.checkpoint() + " " + log());
        for (int page = 0; page < 60; page++) {
            for (int i = 0; i < 256; i++) {
                int want = page < s.pages() ? s.pageByte(page, i) : 0;
                if (want != s.fileByte(page, i)) Db.due("file " + page + " " + i, want, s.fileByte(page, i));
            }
        }
        db.ok("insert into t values (1)").ok("insert into t values (2)").ok("insert into t values (3)");
        Db.due("the file is as it was", 0, s.fileByte(2, 1));
        Db.due("one page in three frames", "1 0+0 0 0", s.checkpoint() + " " + log());
        Db.due("as the last one", 3, s.fileByte(2, 1));
        Db.due("once more", "0 0+0 0 0", s.checkpoint() + " " + log());
        rows("1; 2; 3");
        // A transaction without a mark does not matter.
        db.ok("begin").ok("savepoint p");
        as(1, "insert into t values (4)", 0);
        Db.due("without a mark", "1 0+0 0 0", s.checkpoint() + " " + log());
        s.use(0);
        rows("1; 2; 3; 4");
        Db.due("the mark of an empty log", "0 begun 1", client(0));
    }

    /** The least mark that a client has counts; these frames are used then. */
    private static void checkpointsWithMarks() {
        fresh("create table t (a int)", "insert into t values (1)");
        s.use(1);
        db.ok("begin").ok("select a from t");
        as(0, "insert into t values (2)", 0);
        s.use(2);
        db.ok("begin").ok("select a from t");
        as(0, "insert into t values (3)", 0);
        Db.due("marks", "4 begun 0 5 begun 0 6+0 1572 0", client(1) + " " + client(2) + " " + log());
        Db.due("by the least one", "3 6+0 0 4", s.checkpoint() + " " + log());
        Db.due("one row", 1, s.fileByte(2, 1));
        Db.due("again, the same", "3 6+0 0 4", s.checkpoint() + " " + log());
        s.use(1);
        rows("1");
        db.ok("commit");
        Db.due("by the next one", "3 6+0 0 5", s.checkpoint() + " " + log());
        Db.due("two rows", 2, s.fileByte(2, 1));
        s.use(2);
        rows("1; 2");
        s.use(0);
        rows("1; 2; 3");
        as(2, "rollback", 0);
        Db.due("still there", "6+0 0 5", log());
        Db.due("by the newest one", "3 0+0 0 0", s.checkpoint() + " " + log());
        Db.due("three rows", 3, s.fileByte(2, 1));
        rows("1; 2; 3");
    }

    /** The least mark, whichever client has it. */
    private static void checkpointsOfAnyClient() {
        int[][] orders = {{0, 1}, {1, 0}, {2, 0}, {0, 2}, {1, 2}, {2, 1}};
        for (int[] order : orders) {
            int other = 3 - order[0] - order[1];
            fresh("create table t (a int)", "insert into t values (1)");
            as(order[0], "begin", 0);
            as(order[0], "select a from t", 0);
            as(other, "insert into t values (2)", 0);
            as(order[1], "begin", 0);
            as(order[1], "select a from t", 0);
            as(other, "insert into t values (3)", 0);
            Db.due("the least mark", "3 6+0 0 4", s.checkpoint() + " " + log());
            Db.due("one row", 1, s.fileByte(2, 1));
            as(order[0], "commit", 0);
            Db.due("the other mark", "3 6+0 0 5", s.checkpoint() + " " + log());
            Db.due("two rows", 2, s.fileByte(2, 1));
            s.use(order[1]);
            rows("1; 2");
            // A crash in a checkpoint copies by the least mark as well.
            s.crash(0, 3);
            Db.due("used", "6+0 0 5", log());
            s.open();
            rows("1; 2; 3");
        }
    }

    /** A mark of 0 copies nothing, and keeps the log. */
    private static void checkpointsOfLeastMarks() {
        fresh();
        s.use(2);
        db.ok("begin").ok("select 1");
        as(0, "create table t (a int)", 0);
        Db.due("nothing is copied", "0 3+0 0 0", s.checkpoint() + " " + log());
        Db.due("the file", 2, s.fileByte(0, 1));
        as(2, "select 2", 0);
        Db.due("as its mark tells", 2, s.pages());
        as(2, "create table t (a int)", 7);
        as(2, "commit", 0);
        Db.due("all", "3 0+0 0 0", s.checkpoint() + " " + log());
        // The writer's own changes are not copied.
        db.ok("begin").ok("create table u (a int)");
        Db.due("the writer has a mark of 0", "0 0+0 0 0 2", s.checkpoint() + " " + log() + " " + s.writer());
        db.ok("commit");
        Db.due("appended behind it", "3+0 786 0", log());
        Db.due("trees", 3, s.trees());
    }

    /** Bytes of the log are unsafe, from when they are appended, till they are made safe by sync() or a checkpoint. */
    private static void unsafeBytes() {
        fresh();
        Db.due("none", "0 0", s.sync() + " " + s.unsafeBytes());
        db.ok("create table t (a int)");
        Db.due("all", "786", "" + s.unsafeBytes());
        Db.due("sync", "786 0 0", s.sync() + " " + s.unsafeBytes() + " " + s.sync());
        db.ok("insert into t values (1)").ok("insert into t values (2)");
        Db.due("the last ones", "524 3", s.unsafeBytes() + " " + (s.logBytes() - s.unsafeBytes()) / FRAME);
        s.use(1);
        db.ok("begin").ok("select a from t");
        as(0, "insert into t values (3)", 0);
        s.checkpoint();
        Db.due("a checkpoint makes all safe", "6+0 0 5", log());
        db.ok("begin").ok("insert into t values (4)");
        Db.due("not by a commit that is still to come", 0, s.unsafeBytes());
        db.ok("commit");
        Db.due("by the commit", 262, s.unsafeBytes());
        s.crash(0, 0);
        Db.due("what is left is safe", "7+0 0 5", log());
        s.open();
        Db.due("opened", "7+0 0 5", log());
    }

    // ---- crashes

    /** The last bytes of the log are lost, as many as is told; those up to the last frame of a commit stay. */
    private static void lostBytes() {
        int[] lost = {0, 1, 4, 261, 262, 263, 523, 524, 525, 786, 787, 1047, 1048};
        // Three frames of the table, then a commit of two frames; all are unsafe but the first three.
        for (int bytes : lost) {
            fresh("create table t (a int)", "begin", "insert into t values (1)", "create view v as select a from t", "commit",
                "begin", "insert into t values (2)", "drop view v", "commit");
            Db.due("seven frames", "7+0 1834 0", log());
            Db.due("left", 1834 - bytes, s.crash(bytes, 0));
            int stays = bytes == 0 ? 7 : bytes <= 524 ? 5 : bytes <= 1048 ? 3 : 0;
            Db.due("cut off behind " + bytes, 1834 - bytes - stays * FRAME, s.open());
            Db.due("log behind " + bytes, stays + "+0 0 0", log());
            rows(stays == 7 ? "1; 2" : stays == 5 ? "1" : "");
            Db.due("the view", stays == 5 ? 0 : 3, db.prepare(1, "select 1 from v"));
        }
    }

    private static void lostCommits() {
        int[] lost = {1048, 1049, 1310, 1311, 1572, 1833, 1834};
        for (int bytes : lost) {
            fresh("create table t (a int)", "begin", "insert into t values (1)", "create view v as select a from t", "commit",
                "begin", "insert into t values (2)", "drop view v", "commit");
            s.crash(bytes, 0);
            int stays = bytes <= 1048 ? 3 : 0;
            Db.due("cut off behind " + bytes, 1834 - bytes - stays * FRAME, s.open());
            Db.due("log behind " + bytes, stays + "+0 0 0", log());
            Db.due("pages", stays == 3 ? 3 : 2, s.pages());
        }
    }

    /** It comes in a checkpoint: only the first pages were copied, as many as is told, and the log is not emptied. */
    private static void crashesInCheckpoints() {
        for (int copied = 0; copied <= 3; copied++) {
            fresh("create table t (a int)", "insert into t values (1)", "insert into t values (2)");
            Db.due("left", 1310, s.crash(0, copied));
            Db.due("used", "5+0 0 " + (copied > 0 ? 5 : 0), log());
            Db.due("the file", (copied > 0 ? 3 : 2) + " " + (copied > 1 ? 2 : 0) + " " + (copied > 2 ? 2 : 0),
                s.fileByte(0, 1) + " " + s.fileByte(1, 1) + " " + s.fileByte(2, 1));
            Db.due("open", 0, s.open());
            Db.due("still used", "5+0 0 " + (copied > 0 ? 5 : 0), log());
            rows("1; 2");
            db.ok("insert into t values (3)");
            check("behind it", 0);
            Db.due("checkpoint", "3 0+0 0 0", s.checkpoint() + " " + log());
            rows("1; 2; 3");
        }
    }

    /** ... its frames ahead of that mark are used, if any page was copied. */
    private static void crashesInCheckpointsWithMarks() {
        for (int copied = 0; copied <= 3; copied++) {
            fresh("create table t (a int)", "insert into t values (1)");
            s.use(2);
            db.ok("begin").ok("select a from t");
            as(0, "insert into t values (2)", 0);
            as(0, "insert into t values (3)", 0);
            s.crash(0, copied);
            Db.due("used", "6+0 0 " + (copied > 0 ? 4 : 0), log());
            Db.due("the table in the file", copied > 2 ? 1 : 0, s.fileByte(2, 1));
            int first = copied > 0 ? 4 * FRAME : 0;
            Db.due("poke ahead of it", copied > 0 ? "IndexOutOfBoundsException" : "nothing", Db.thrown(() -> s.poke(Math.max(0, first - 1), 255)));
            if (copied == 0) s.poke(0, 255);
            Db.due("poke behind it", s.logByte(5 * FRAME) ^ 1, s.poke(5 * FRAME, 1));
            Db.due("cut off", FRAME, s.open());
            rows("1; 2");
            Db.due("checkpoint", "3 0+0 0 0", s.checkpoint() + " " + log());
            rows("1; 2");
        }
    }

    /** All transactions are over, and forgotten; no slot has a statement; the tape and the client in use stay. */
    private static void whatACrashForgets() {
        fresh("create table t (a int)");
        for (int slot = 0; slot < 8; slot++) db.prepare(slot, "select ?");
        s.use(1);
        db.ok("begin").ok("select a from t").ok("savepoint p");
        s.use(2);
        db.ok("begin").ok("insert into t values (1)").ok("savepoint p").ok("savepoint q").ok("select a from t");
        db.prepare(1, "begin");
        Db.due("a code", 11, s.run(1));
        db.prepare(0, "select");
        db.tape("abc");
        Db.due("an error", "6 11", s.errorAt() + " " + s.code());
        s.crash(0, 0);
        for (int client = 0; client < 3; client++) Db.due("client " + client, "-1 none 0", client(client));
        for (int slot = 0; slot < 8; slot++) Db.due("slot " + slot, -1, s.parameters(slot));
        Db.due("all else", "-1 0 0 0 0 0 -1 2 false", s.writer() + " " + s.code() + " " + s.rows() + " " + s.columns() + " " + s.changed() + " " + s.steps() + " "
            + s.errorAt() + " " + s.client() + " " + s.isOpen());
        Db.due("the tape", 3, s.trim(3));
        Db.due("open", 0, s.open());
        Db.due("the client stays", 2, s.client());
        rows("");
        as(0, "insert into t values (5)", 0);
    }

    /** A frame is good, if all its bytes are there, and are as they were appended. */
    private static void pokes() {
        int[] places = {0, 1, 2, 100, 257, 258, 261};
        for (int place : places) {
            for (int frame = 3; frame < 6; frame++) {
                fresh("create table t (a int)", "insert into t values (1)", "insert into t values (2)", "insert into t values (3)");
                s.crash(0, 0);
                int was = s.logByte(frame * FRAME + place);
                Db.due("poke", was ^ 1, s.poke(frame * FRAME + place, 1));
                Db.due("cut off", (6 - frame) * FRAME, s.open());
                rows(frame == 3 ? "" : frame == 4 ? "1" : "1; 2");
            }
        }
        // Poked back, it is good again.
        fresh("create table t (a int)", "insert into t values (1)");
        s.crash(0, 0);
        s.poke(5, 3);
        s.poke(5, 1);
        s.poke(5, 2);
        Db.due("as it was", "0 1", s.open() + " " + (s.pages() - 2));
        rows("1");
    }

    /** Of the good frames ahead of the first that is not good, those up to the last one with 1 behind its page stay. */
    private static void pokesOfSeveralFrames() {
        // Commits of three, two and two frames.
        int[] stays = {0, 0, 0, 3, 3, 5, 5};
        for (int frame = 0; frame < 7; frame++) {
            fresh("create table t (a int)", "begin", "insert into t values (1)", "create view v as select a from t", "commit",
                "begin", "insert into t values (2)", "drop view v", "commit");
            s.crash(0, 0);
            s.poke(frame * FRAME + 1, 1);
            if (frame < 6) s.poke(6 * FRAME, 4);
            Db.due("cut off by frame " + frame, (7 - stays[frame]) * FRAME, s.open());
            Db.due("log", stays[frame] + "+0 0 0", log());
            Db.due("pages", stays[frame] > 0 ? 3 : 2, s.pages());
        }
        // The bytes of a frame that is not whole may be poked, too.
        fresh("create table t (a int)", "insert into t values (1)");
        s.crash(10, 0);
        s.poke(4 * FRAME - 11, 255);
        Db.due("the rest of a frame", 252, s.open());
        rows("");
    }

    private static void opened() {
        fresh();
        s.crash(0, 0);
        Db.due("open of nothing", "0 true 2", s.open() + " " + s.isOpen() + " " + s.pages());
        db.ok("create table t (a int)");
        for (int i = 0; i < 3; i++) {
            s.crash(0, 0);
            Db.due("nothing cut off", 0, s.open());
        }
        rows("");
        s.checkpoint();
        s.crash(0, 0);
        Db.due("all in the file", "0 0+0 0 0", s.open() + " " + log());
        rows("");
        db.ok("insert into t values (1)");
        s.crash(262, 0);
        Db.due("an empty log is left", "0 0+0 0 0", s.open() + " " + log());
        rows("");
    }

    private static void wholeLogLost() {
        fresh("create table t (a int)", "insert into t values (1)");
        Db.due("all lost", 0, s.crash(1048, 0));
        Db.due("no byte", "IndexOutOfBoundsException", Db.thrown(() -> s.logByte(0)));
        Db.due("open", 0, s.open());
        Db.due("as at first", "2 1 0", s.pages() + " " + s.trees() + " " + s.entriesOf(0));
        db.ok("create table t (b text)");
        check("anew", 0);
    }

    // ---- 12. Running a statement

    /** There are 8 slots, for all clients; parameters are null at first, and keep their values till they are changed. */
    private static void slots() {
        fresh("create table t (a int)");
        for (int slot = 0; slot < 8; slot++) {
            db.prepare(slot, "select " + slot + ",?");
            s.bindNumber(slot, 0, 10 + slot);
        }
        for (int slot = 0; slot < 8; slot++) {
            s.use(slot % 3);
            s.run(slot);
            Db.due("slot " + slot, slot + " " + (10 + slot), db.told());
        }
        db.prepare(3, "select ?+?");
        s.run(3);
        Db.due("null at first", "null", db.told());
        s.bindNumber(3, 0, 1);
        s.bindNumber(3, 1, 2);
        Db.due("an error", 1, db.prepare(3, "select"));
        s.run(3);
        Db.due("the slot and its values stay", "3", db.told());
        s.run(4);
        s.run(3);
        Db.due("they keep their values", "3", db.told());
        db.prepare(3, "select ?+?");
        s.run(3);
        Db.due("null again", "null", db.told());
        // A statement of the five is in a slot as any other.
        db.prepare(0, "begin");
        db.prepare(1, "commit");
        Db.due("no parameters", "0 0", s.parameters(0) + " " + s.parameters(1));
        Db.due("again and again", "0 11 0 11", s.run(0) + " " + s.run(0) + " " + s.run(1) + " " + s.run(1));
    }

    /** Steps are counted while it is run; with another code than 0 there are 0 rows and 0 columns. */
    private static void stepsAndCodes() {
        fresh("create table t (a int unique)", "insert into t values (1),(2),(3)");
        db.ok("select a from t");
        Db.due("a query", "0 3 1 0 3", told());
        s.crash(0, 0);
        Db.due("a crash forgets it", "0 0 0 0 0", told());
        s.open();
        db.ok("update t set a=a");
        Db.due("changed", "0 0 0 3 3", told());
        s.crash(0, 0);
        Db.due("a crash forgets that", "0 0 0 0 0", told());
        s.open();
        db.ok("select a from t where 0");
        Db.due("without rows", "0 0 1 0 3", told());
        db.ok("update t set a=a");
        Db.due("an update", "0 0 0 3 3", told());
        db.ok("insert into t select a+10 from t where a=1");
        Db.due("an insert of a query", "0 0 0 1 2", told());
        db.ok("create view v as select a from t");
        Db.due("a create view", "0 0 0 0 0", told());
        db.ok("drop view v").ok("delete from t where a=11");
        db.code(4, "insert into t select a from t");
        Db.due("a code", "4 0 0 0 3", told());
        db.code(4, "update t set a=1 where a+0=3");
        Db.due("a code of an update", "4 0 0 0 3", told());
        db.ok("begin");
        Db.due("begin", "0 0 0 0 0", told());
        db.ok("delete from t where a=1");
        Db.due("a delete by an index", "0 0 0 1 2", told());
        db.ok("rollback");
        Db.due("rollback", "0 0 0 0 0", told());
        db.code(8, "select 1 from t b,t c,t d,t e union all select 1 from t");
        Db.due("code 8", "8 0 0 0 1500", told());
        db.ok("select a from t");
        db.prepare(1, "select 1 from t,t");
        Db.due("prepare leaves what was told", "0 3 1 0 3", told());
        s.checkpoint();
        s.sync();
        Db.due("a checkpoint, too", "0 3 1 0 3", told());
    }

    private static String told() {
        return s.code() + " " + s.rows() + " " + s.columns() + " " + s.changed() + " " + s.steps();
    }

    /** digest: d * 31 + x, which wraps around. */
    private static void digests() {
        fresh();
        long d = 58001;
        // Client 0, open, errorAt -1, then zeros, writer -1, eight slots of -1, three clients of 0, -1 and 0.
        long[] x = {0, 1, -1, 0, 0, 0, 0, 0, 0, 0, 0, -1, -1, -1, -1, -1, -1, -1, -1, -1, 0, -1, 0, 0, -1, 0, 0, -1, 0, 2, 0, 1, 0};
        for (long n : x) d = d * 31 + n;
        for (int i = 0; i < 512; i++) d = d * 31 + (i == 0 ? 7 : i == 1 ? 2 : i == 256 ? 1 : 0);
        Db.due("a new one", d, s.digest());
        s.crash(0, 0);
        d = 58001;
        for (int i = 0; i < 29; i++) d = d * 31 + (i == 1 ? 0 : x[i]);
        Db.due("a closed one", d, s.digest());
    }
}
