/** Promises 12, 14 and 16: what statements change, and the codes that they end with. */
public final class ChangeTest {
    private static Db db;

    public static void main(String[] args) {
        inserts();
        examining();
        ignoring();
        replacing();
        updates();
        deletes();
        references();
        cascades();
        settingNull();
        definitions();
        undone();
        codes();
        Db.end();
    }

    private static void rows(String want, String table) {
        db.query(want, "select * from " + table);
    }

    private static void changed(int want, String text) {
        db.ok(text);
        Db.due("changed by " + text, want, db.store.changed());
    }

    private static void inserts() {
        db = new Db();
        db.ok("create table t (a int default 7,b text default 'd',c int)");
        changed(1, "insert into t values (1,'x',2)");
        changed(2, "insert into t (c) values (3),(null)");
        changed(1, "insert into t (b,a) values (null,4)");
        rows("1 'x' 2; 7 'd' 3; 7 'd' null; 4 null null", "t");
        changed(4, "insert into t (a,c) select c,a from t");
        Db.due("steps of insert", 4, db.store.steps());
        rows("1 'x' 2; 7 'd' 3; 7 'd' null; 4 null null; 2 'd' 1; 3 'd' 7; null 'd' 7; null 'd' 4", "t");
        changed(0, "insert into t select * from t where 0");
        db.ok("create table u (a int)");
        // All rows are reckoned first.
        changed(2, "insert into u values ((select count(*) from u)),((select count(*) from u))");
        rows("0; 0", "u");
        db.prepare(1, "insert into u values (?),(-?)");
        db.store.bindNumber(1, 0, Long.MIN_VALUE);
        db.store.bindNumber(1, 1, Long.MAX_VALUE);
        db.store.run(1);
        rows("0; 0; -9223372036854775808; -9223372036854775807", "u");
    }

    private static void examining() {
        db = new Db();
        db.ok("create table t (a int not null,b text unique,c text,check(a<10),check(length(c)<30))");
        db.ok("insert into t values (1,'x',null)");
        String long20 = "'aaaaaaaaaaaaaaaaaaaa'";
        String long24 = "'aaaaaaaaaaaaaaaaaaaaaaaa'";
        db.ok("insert into t values (2," + long24 + "," + long24 + ")");
        db.code(10, "insert into t values (null,'x'," + long24 + "||'a')");
        db.code(3, "insert into t values (null,'x'," + long24 + ")");
        db.code(5, "insert into t values (10,'x',null)");
        db.code(4, "insert into t values (9,'x',null)");
        db.ok("insert into t values (9,null,null),(9,null,null)");
        // A check that is null holds.
        db.ok("create table n (a int,check(a>0),check(null))").ok("insert into n values (null)");
        db.ok("create table w (a text,b text,c text,d text unique)");
        db.ok("insert into w values (" + long24 + "," + long24 + "," + long24 + ",'aaaa')");
        db.code(10, "insert into w values (" + long24 + "," + long24 + "," + long24 + ",'aaaaa')");
        db.code(4, "insert into w values (" + long20 + "," + long24 + "," + long24 + ",'aaaa')");
        // 80 bytes are told ahead of what is unique, behind the checks.
        db.ok("create table m (a text,b text,c text,d text,e int,check(e>0),unique(e))").ok("insert into m (e) values (1)");
        db.code(5, "insert into m values (" + long24 + "," + long24 + "," + long24 + ",'aaaaa',0)");
        db.code(10, "insert into m values (" + long24 + "," + long24 + "," + long24 + ",'aaaaa',1)");
        db.ok("create table p (a int,b int,unique(a,b))").ok("insert into p values (1,2),(1,3),(1,null),(1,null),(null,null)");
        db.code(4, "insert into p values (5,5),(1,3)");
        rows("1 2; 1 3; 1 null; 1 null; null null", "p");
    }

    private static void ignoring() {
        db = new Db();
        db.ok("create table t (a int unique,b int not null,c text,check(b<9))");
        changed(2, "insert or ignore into t values (1,1,'x'),(1,2,'y'),(2,null,'x'),(3,9,'x'),(4,4,'z')");
        rows("1 1 'x'; 4 4 'z'", "t");
        db.code(10, "insert or ignore into t values (5,5,'aaaaaaaaaaaaaaaaaaaaaaaa'||'a')");
        db.ok("create table u (a int references t(a))");
        db.code(6, "insert or ignore into u values (1),(2)");
        rows("", "u");
        changed(1, "insert or ignore into t select 1,1,'x' union all select 7,7,'y'");
    }

    private static void replacing() {
        db = new Db();
        db.ok("create table t (a int unique,b int unique,c int,check(c<9))");
        db.ok("insert into t values (1,10,0),(2,20,0),(3,30,0)");
        changed(3, "insert or replace into t values (1,20,5)");
        rows("3 30 0; 1 20 5", "t");
        changed(2, "insert or replace into t values (3,30,1)");
        rows("1 20 5; 3 30 1", "t");
        db.code(5, "insert or replace into t values (1,1,9)");
        rows("1 20 5; 3 30 1", "t");
        // The number of the new row is reckoned behind what was taken out.
        db.ok("delete from t");
        changed(1, "insert into t values (5,5,5)");
        changed(2, "insert or replace into t values (5,6,6)");
        Db.due("number of the row", 1, db.store.pageByte(db.store.rootOf(1), 7));
        db.ok("create table u (x int references t(a) on delete cascade,y int references t(b))");
        db.ok("insert into u values (5,null),(null,6)");
        db.code(6, "insert or replace into t values (5,7,7)");
        db.ok("delete from u where y=6");
        // The row that refers to the one that is taken out goes with it, also if the new one has the value again.
        changed(3, "insert or replace into t values (5,7,7)");
        rows("", "u");
    }

    private static void updates() {
        db = new Db();
        db.ok("create table t (a int unique,b int,c text not null,check(b<100))");
        db.ok("insert into t values (1,10,'x'),(2,20,'y'),(3,30,'z')");
        changed(2, "update t set b=a,a=b where a<3");
        rows("10 1 'x'; 20 2 'y'; 3 30 'z'", "t");
        // Row by row: the second one meets the first one.
        db.code(4, "update t set a=a+10 where a>=10");
        changed(2, "update t set a=a-10 where a>=10");
        rows("0 1 'x'; 10 2 'y'; 3 30 'z'", "t");
        changed(3, "update t set a=a");
        changed(0, "update t set a=5 where 0");
        db.code(3, "update t set c=null");
        db.code(5, "update t set b=100 where a=3");
        db.code(10, "update t set c=c||'aaaaaaaaaaaaaaaaaaaaaaaa'");
        db.code(4, "update t set a=1");
        rows("0 1 'x'; 10 2 'y'; 3 30 'z'", "t");
        changed(3, "update t set b=(select max(b) from t)+1,c='q'");
        rows("0 31 'q'; 10 31 'q'; 3 31 'q'", "t");
        changed(1, "update t set a=null where a=3");
        changed(3, "update t set a=null");
        rows("null 31 'q'; null 31 'q'; null 31 'q'", "t");
    }

    private static void deletes() {
        db = new Db();
        db.ok("create table t (a int)").ok("insert into t values (1),(2),(3),(4),(5)");
        changed(2, "delete from t where a in (2,4)");
        rows("1; 3; 5", "t");
        changed(1, "delete from t where a=(select max(a) from t)");
        changed(0, "delete from t where null");
        changed(2, "delete from t");
        rows("", "t");
        db.ok("insert into t values (9)");
        Db.due("numbers begin at 1 again", 1, db.store.pageByte(db.store.rootOf(1), 7));
    }

    private static void references() {
        db = new Db();
        db.ok("create table t (a int unique,b text,unique(b))");
        db.ok("create table u (x int references t(a),y text references t(b))");
        db.ok("insert into t values (1,'p'),(2,'q'),(null,null)");
        db.ok("insert into u values (1,'q'),(null,null),(2,null)");
        db.code(6, "insert into u values (3,null)");
        db.code(6, "insert into u values (null,'r')");
        db.code(6, "update u set x=3 where x=1");
        changed(1, "update u set x=2 where x=1");
        changed(3, "update u set x=x");
        db.code(6, "update t set a=5 where a=2");
        changed(1, "update t set a=5 where a=1");
        changed(1, "update t set b='q',a=2 where a=2");
        db.code(6, "delete from t where a=2");
        changed(1, "delete from t where a=5");
        changed(1, "delete from t where a is null");
        db.code(6, "drop table t");
        db.ok("delete from u").ok("delete from t");
        // A table may refer to itself, and a row to itself.
        db.ok("create table s (a int unique,b int references s(a))");
        changed(3, "insert into s values (1,1),(2,1),(3,null)");
        db.code(6, "insert into s values (4,5)");
        db.code(6, "insert into s values (4,5),(5,5)");
        db.code(6, "delete from s where a=1");
        changed(1, "update s set b=null where a=2");
        changed(1, "delete from s where a=1");
        db.code(6, "update s set a=9,b=3 where a=3");
        changed(1, "update s set a=9,b=9 where a=3");
        db.code(6, "update s set a=8 where a=9");
        db.ok("drop table s");
    }

    private static void cascades() {
        db = new Db();
        db.ok("create table t (a int unique)").ok("create table u (b int unique,c int references t(a) on delete cascade)");
        db.ok("create table w (d int references u(b) on delete cascade,e int)");
        db.ok("insert into t values (1),(2)").ok("insert into u values (10,1),(11,1),(12,2)");
        db.ok("insert into w values (10,0),(11,1),(11,2),(12,3)");
        changed(6, "delete from t where a=1");
        rows("12 2", "u");
        rows("12 3", "w");
        // Cascades around a circle end.
        db.ok("create table s (a int unique,b int references s(a) on delete cascade)");
        db.ok("insert into s values (1,null),(2,1),(3,2),(4,3),(5,5)").ok("update s set b=4 where a=1");
        changed(4, "delete from s where a=3");
        rows("5 5", "s");
        changed(1, "delete from s");
        // The list of rows to take out may have 60 entries; those that are there already count anew.
        db.ok("create table k (a int references t(a) on delete cascade,b int references t(a) on delete cascade)");
        for (int i = 0; i < 4; i++) db.ok("insert into k values (2,null),(2,null),(2,null),(2,null),(2,null),(2,null),(2,null),(2,null)");
        db.ok("delete from w").ok("delete from u");
        db.ok("update k set b=2");
        db.code(8, "delete from t");
        Db.due("steps of code 8", 1500, db.store.steps());
        db.ok("update k set b=null");
        changed(33, "delete from t");
    }

    private static void settingNull() {
        db = new Db();
        db.ok("create table t (a int unique)").ok("insert into t values (1),(2)");
        db.ok("create table u (b int references t(a) on delete set null,c int unique,check(b is not null or c<5))");
        db.ok("create index i on u(b,c)");
        db.ok("insert into u values (1,1),(2,2),(1,3),(2,7)");
        changed(3, "delete from t where a=1");
        rows("null 1; 2 2; null 3; 2 7", "u");
        db.query("2; 7", "select c from u where b=2");
        db.code(5, "delete from t where a=2");
        rows("null 1; 2 2; null 3; 2 7", "u");
        db.ok("create table n (b int not null references t(a) on delete set null)").ok("insert into n values (2)").ok("delete from u");
        db.code(3, "delete from t");
        // Any number of rows may be set to null.
        db.ok("create table m (a int references t(a) on delete set null)").ok("delete from n");
        for (int i = 0; i < 9; i++) db.ok("insert into m values (2),(2),(2),(2),(2),(2),(2),(2)").store.checkpoint();
        changed(73, "delete from t where a=2");
        db.query("72", "select count(*) from m where a is null");
        // A column that is set to null may itself be referenced.
        db.ok("create table r (a int unique)").ok("insert into r values (1)");
        db.ok("create table s (a int unique references r(a) on delete set null)").ok("insert into s values (1)");
        db.ok("create table q (a int references s(a))").ok("insert into q values (1)");
        db.code(6, "delete from r");
        db.ok("delete from q");
        changed(2, "delete from r");
    }

    private static void definitions() {
        db = new Db();
        changed(0, "create table t (a int,b int)");
        changed(4, "insert into t values (1,2),(1,2),(null,3),(null,3)");
        db.code(4, "create unique index i on t(a)");
        db.code(4, "create unique index i on t(b,a)");
        db.ok("delete from t where a=1").ok("create unique index i on t(a,b)");
        db.ok("insert into t values (null,3),(5,5)");
        db.code(4, "insert into t values (5,5)");
        changed(2, "insert or replace into t values (5,5)");
        db.code(4, "update t set a=5,b=5");
        Db.due("trees", 3, db.store.trees());
        db.ok("drop index i");
        Db.due("trees without it", 2, db.store.trees());
        db.ok("insert into t values (5,5)");
        db.ok("create view v as select a from t").ok("drop table t");
        Db.due("a view that is an error", 12, prepared("select 1", "select a from v", "create table t (a int)", "drop table t"));
        db.ok("drop view v");
        // A table, and an index, may have a lower number than the table that it tells of.
        Db ahead = db;
        db = new Db();
        db.ok("create table x (a int)").ok("create table y (a int)").ok("create table t (a int unique)");
        db.ok("drop table x").ok("create index i on t(a)").ok("drop table y").ok("create table u (a int references t(a))");
        db.code(6, "drop table t");
        db.ok("insert into t values (1)").ok("insert into u values (1)");
        db.code(6, "delete from t");
        db.ok("drop table u").ok("drop table t");
        Db.due("the index is dropped, too", "1 1 0", db.store.trees() + " " + db.store.treePages() + " " + db.store.entriesOf(0));
        db = ahead;
        // The texts of definitions are as they were, however long.
        String columns = "a text default 'aaaaaaaaaaaaaaaaaaaaaaaa',b text default 'bbbbbbbbbbbbbbbbbbbbbbbb'";
        db.ok("create table big (" + columns + " ".repeat(300) + ",c int,check(" + "c<>1 and ".repeat(12) + "c<50))");
        db.ok("insert into big (c) values (2)");
        db.code(5, "insert into big (c) values (1)");
        rows("'aaaaaaaaaaaaaaaaaaaaaaaa' 'bbbbbbbbbbbbbbbbbbbbbbbb' 2", "big");
    }

    /** Prepares the second text while the third one has been run; the code behind the fourth one. */
    private static int prepared(String first, String text, String ahead, String behind) {
        db.ok(first).ok(ahead);
        Db.due(text, 0, db.prepare(3, text));
        db.ok(behind);
        return db.store.run(3);
    }

    private static void undone() {
        db = new Db();
        db.ok("create table t (a int unique)").ok("begin").ok("insert into t values (1),(2)");
        long before = pagesOf();
        db.code(4, "insert into t values (3),(4),(1)");
        Db.due("changed with a code", 0, db.store.changed());
        Db.due("nothing is changed", before, pagesOf());
        db.code(4, "update t set a=a+1");
        Db.due("nothing is changed by an update", before, pagesOf());
        db.ok("create table u (a int references t(a))").ok("insert into u values (2)");
        before = pagesOf();
        db.code(6, "delete from t");
        Db.due("nothing is changed by a delete", before, pagesOf());
        db.code(6, "drop table t");
        Db.due("nothing is changed by a drop", before, pagesOf());
        Db.due("the writer stays", "0 4", db.store.writer() + " " + db.store.markOf(0));
    }

    private static long pagesOf() {
        long d = 0;
        for (int page = 0; page < db.store.pages(); page++) {
            for (int i = 0; i < 256; i++) d = d * 31 + db.store.pageByte(page, i);
        }
        return d;
    }

    private static void codes() {
        db = new Db();
        db.ok("create table t (a int)");
        db.prepare(1, "select a from t");
        db.prepare(2, "insert into t values (1)");
        db.ok("drop table t");
        Db.due("a query of what is gone", 12, db.store.run(1));
        Db.due("code()", 12, db.store.code());
        Db.due("an insert into what is gone", 12, db.store.run(2));
        db.ok("create table t (a int)");
        Db.due("it is there again", 0, db.store.run(2));
        Db.due("code() of it", 0, db.store.code());
        db.ok("drop table t").ok("create table t (b text)");
        Db.due("it has another column", "12 12", db.store.run(1) + " " + db.store.run(2));
        // No room: 60 pages.
        db = new Db();
        int made = 0;
        for (int i = 0; i < 9; i++) {
            String columns = "a int unique,b int unique,c int unique,d int unique,e int unique,f int unique";
            if (db.sql("create table t" + i + " (" + columns + ")") == 0) made++;
            db.store.checkpoint();
        }
        Db.due("tables of seven trees", 7, made);
        Db.due("the last code", 9, db.store.code());
        int pages = db.store.pages();
        db.ok("drop table t3");
        Db.due("pages are freed", true, db.store.freePages() >= 7);
        db.ok("create table x (a int)");
        Db.due("free pages are taken first", pages, db.store.pages());
    }
}
