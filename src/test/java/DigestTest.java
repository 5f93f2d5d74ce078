/** Promise 49: digest, reckoned anew from what the other calls answer. */
public final class DigestTest {
    public static void main(String[] args) {
        Db db = new Db();
        check("new", db);
        db.ok("create table t (a int unique,b text,c int)");
        check("a table", db);
        db.ok("insert into t values (1,'x',null),(-2,'yz',9),(null,'',-1)").ok("select a,b,c from t");
        check("rows", db);
        db.prepare(3, "select ?,$ +");
        check("an error", db);
        db.prepare(3, "select ?,$");
        check("a statement", db);
        db.store.use(2);
        db.ok("begin").ok("savepoint a").ok("insert into t values (5,'q',5)");
        check("a writer", db);
        db.store.use(1);
        check("another client", db);
        db.store.checkpoint();
        db.sql("select count(*) from t");
        check("a checkpoint", db);
        db.store.use(2);
        db.ok("commit").ok("drop table t");
        check("free pages", db);
        db.store.sync();
        db.ok("create table u (a int)");
        db.store.crash(100, 0);
        check("closed", db);
        db.store.open();
        check("opened", db);
        db.code(11, "commit");
        check("a code", db);
        // Sixty rows of eight columns.
        Db full = new Db();
        full.ok("create table t (a int,b text)");
        for (int i = 0; i < 60; i += 6) full.ok("insert into t values (1,'x'),(2,null),(null,'y'),(4,'zz'),(5,''),(" + i + ",'i')");
        full.ok("select a,b,a,b,a,b,a,b from t");
        check("a full list", full);
        Db.end();
    }

    private static long d;

    private static void add(long x) {
        d = d * 31 + x;
    }

    private static void check(String what, Db db) {
        SqlStore s = db.store;
        long got = s.digest();
        d = 58001;
        int[] first = {s.client(), s.isOpen() ? 1 : 0, s.errorAt(), s.code(), s.rows(), s.columns(), s.changed(), s.steps(), s.logBytes(),
            s.unsafeBytes(), s.usedFrames(), s.writer()};
        for (int x : first) add(x);
        for (int slot = 0; slot < 8; slot++) add(s.parameters(slot));
        for (int client = 0; client < 3; client++) {
            add(s.inTransaction(client) ? 1 : 0);
            add(s.markOf(client));
            add(s.savepoints(client));
        }
        for (int row = 0; row < s.rows(); row++) {
            for (int column = 0; column < s.columns(); column++) {
                add(s.kindAt(row, column));
                if (s.kindAt(row, column) == 1) add(s.numberAt(row, column));
                if (s.kindAt(row, column) != 2) continue;
                add(s.lengthAt(row, column));
                for (int i = 0; i < s.lengthAt(row, column); i++) add(s.byteAt(row, column, i));
            }
        }
        for (int i = 0; i < s.logBytes(); i++) add(s.logByte(i));
        if (s.isOpen()) {
            add(s.pages());
            add(s.freePages());
            add(s.treePages());
            add(s.framesDue());
            for (int page = 0; page < s.pages(); page++) {
                for (int i = 0; i < 256; i++) add(s.pageByte(page, i));
            }
        }
        Db.due("digest: " + what, d, got);
        Db.due("digest changes nothing: " + what, got, s.digest());
    }
}
