/** Promises 17, 22 and 23: which index is used, what it is worth, and the steps of it. */
public final class IndexTest {
    private static Db db;

    public static void main(String[] args) {
        wrongInputs();
        worth();
        sources();
        whatCounts();
        found();
        numbers();
        changes();
        sameAnswers();
        Db.end();
    }

    /** For each source the index and its worth. */
    private static void used(String want, String text) {
        int error = db.prepare(1, text);
        StringBuilder b = new StringBuilder();
        if (error != 0) b.append("error ").append(error);
        for (int i = 0; i < 12 && error == 0; i++) {
            int index = db.store.indexUsed(1, i);
            int worth = db.store.worthOf(1, i);
            if (index == -2 && worth == -2) break;
            b.append(i == 0 ? "" : " ").append(index).append(':').append(worth);
        }
        Db.due(text, want, b.toString());
    }

    private static void wrongInputs() {
        db = new Db();
        SqlStore s = db.store;
        for (int slot : new int[] {-1, 8}) {
            Db.due("indexUsed " + slot, "IndexOutOfBoundsException", () -> s.indexUsed(slot, 0));
            Db.due("worthOf " + slot, "IndexOutOfBoundsException", () -> s.worthOf(slot, 0));
        }
        Db.due("indexUsed without", "IllegalStateException", () -> s.indexUsed(0, 0));
        Db.due("worthOf without", "IllegalStateException", () -> s.worthOf(0, 0));
        db.ok("create table t (a int unique)");
        db.prepare(0, "select a from t where a=1");
        Db.due("used", "0 2", s.indexUsed(0, 0) + " " + s.worthOf(0, 0));
        Db.due("no such source", "-2 -2 -2 -2", s.indexUsed(0, 1) + " " + s.worthOf(0, 1) + " " + s.indexUsed(0, -1) + " " + s.worthOf(0, -1));
        db.prepare(1, "drop table t");
        s.run(1);
        Db.due("an error now", "-3 -3 -3", s.indexUsed(0, 0) + " " + s.worthOf(0, 0) + " " + s.indexUsed(0, 9));
        db.prepare(2, "begin");
        Db.due("no sources", "-2 -2", s.indexUsed(2, 0) + " " + s.worthOf(2, 0));
        s.crash(0, 0);
        Db.due("indexUsed, closed", "IllegalStateException", () -> s.indexUsed(0, 0));
        Db.due("worthOf, closed", "IllegalStateException", () -> s.worthOf(0, 0));
        Db.due("indexUsed 8, closed", "IndexOutOfBoundsException", () -> s.indexUsed(8, 0));
    }

    private static void worth() {
        db = new Db();
        db.ok("create table t (a int unique,b int,c int,d int,unique(b,c,d))").ok("create index i on t(b,d)");
        used("-1:0", "select 1 from t");
        used("0:2", "select 1 from t where a=1");
        used("0:2", "select 1 from t where 1=a");
        used("0:1", "select 1 from t where a>1");
        used("0:1", "select 1 from t where 1>=a and 5<a");
        used("0:1", "select 1 from t where a between 1 and 2");
        used("-1:0", "select 1 from t where a not between 1 and 2");
        used("-1:0", "select 1 from t where a<>1");
        used("-1:0", "select 1 from t where a in (1)");
        used("-1:0", "select 1 from t where a is null");
        used("-1:0", "select 1 from t where not a=1");
        used("-1:0", "select 1 from t where a=1 or a=2");
        used("-1:0", "select 1 from t where a+0=1");
        used("0:2", "select 1 from t where ((a))=(1) and (b=2 or b=3)");
        used("1:2", "select 1 from t where b=1");
        used("1:6", "select 1 from t where d=3 and c=2 and b=1");
        used("1:5", "select 1 from t where d>3 and c=2 and b=1");
        used("2:4", "select 1 from t where d=3 and b=1");
        used("1:3", "select 1 from t where c>3 and b=1");
        used("2:3", "select 1 from t where d>3 and b=1");
        used("1:3", "select 1 from t where c>3 and d>3 and b=1");
        used("-1:0", "select 1 from t where d=3 and c=1");
        used("1:1", "select 1 from t where b>1 and c=1 and d=1");
        used("0:2", "select 1 from t where b=1 and a=1");
        used("0:2", "select 1 from t where ?=a");
        used("0:2", "select 1 from t where a=null");
        used("0:2", "select 1 from t where a=coalesce(1,2)+abs(-1)");
        used("-1:0", "select 1 from t where a=b");
        used("-1:0", "select 1 from t where a=(select 1)");
        used("-1:0", "select 1 from t where a=1+(2 in (select 1))");
        used("-1:0", "select 1 from t where a=exists (select 1)");
        used("-1:0", "select 1 from t where a between 1 and b");
        used("-1:0", "select 1 from t where a between (select 1) and 2");
        used("0:1", "select 1 from t where a between (select 1) and 2 and a<5");
        used("1:2 1:2", "select 1 from t where b=1 union select 1 from t where b=2");
        used("0:2", "select 1 from t where (c=2 and (d>1 and a=1))");
        used("1:3", "select 1 from t where (b=2 and (c>1 and a=1))");
    }

    private static void sources() {
        db = new Db();
        db.ok("create table t (a int unique,b int)").ok("create table u (a int,b int unique)");
        db.ok("create view v as select a from t where a=1");
        used("-1:0 0:2", "select 1 from t join u on t.a=u.b");
        used("-1:0 0:2", "select 1 from u join t on t.a=u.b");
        used("-1:0 0:2", "select 1 from u,t where t.a=u.b");
        used("0:2 0:2", "select 1 from u,t where t.a=u.b and u.b=5");
        used("-1:0 -1:0", "select 1 from u,t where t.a=t.b");
        used("-1:0", "select 1 from v,u");
        used("0:2", "select 1 from v,t where t.a=v.a");
        used("-1:0 0:2", "select (select 1 from u) from t where a=2");
        used("0:2 -1:0", "select (select 1 from t where t.a=2) from u");
        used("-1:0 0:2", "select 1 from u where exists (select 1 from t where t.a=u.a)");
        used("-1:0 0:2 -1:0", "select 1 from t x,(select b from t where a=1) y,t z");
        used("0:2", "update t set b=1 where a=2");
        used("0:1 -1:0", "update t set b=(select 1 from u) where a>2");
        used("0:2", "delete from t where a=2");
        used("-1:0 0:2", "delete from u where a in (select a from t where a=u.b)");
        used("", "insert into t values (1,2)");
        used("0:2", "insert into t select a,b from t where a=1");
        used("0:2 -1:0", "create view w as select x.a from t x,u where x.a=1");
        used("", "create index i on t(b)");
        used("", "drop table t");
        used("", "select 1");
        used("", "select 1 from v");
    }

    private static void whatCounts() {
        db = new Db();
        db.ok("create table t (a int unique,b int)").ok("create table u (a int,b int unique)");
        // For the right source of a left join only its own on counts.
        used("-1:0 -1:0", "select 1 from u left join t on 1 where t.a=1");
        used("-1:0 0:2", "select 1 from u left join t on t.a=1");
        used("0:2 -1:0", "select 1 from t left join u on t.b=1 where t.a=1");
        used("-1:0 -1:0", "select 1 from t left join u on t.a=1");
        used("-1:0 -1:0", "select 1 from t join u on t.a=1");
        used("-1:0 0:2", "select 1 from u join t on 1 where t.a=1");
        used("-1:0 0:2 -1:0", "select 1 from u join t on t.a=u.a left join u x on x.a=1");
        // The first part that is usable counts: those of on first.
        db.ok("insert into t values (1,1),(2,2),(3,3),(4,4)").ok("insert into u values (1,1)");
        db.query("", "select t.a from u join t on t.a>3 where t.a>1 and t.a+0<4");
        Db.due("on comes first", 1 + 1 + 1, db.store.steps());
        db.query("", "select t.a from u join t on t.a>3 where t.a>1 and t.a<4");
        Db.due("a lower one of on, an upper one of where", 1, db.store.steps());
        db.query("2; 4", "select t.a from u join t on t.a>1 where t.a>3 or t.a=2");
        Db.due("entries by on", 1 + 3 + 3, db.store.steps());
        db.query("4", "select a from t where a>1 and a>3");
        Db.due("the first lower one", 6, db.store.steps());
        db.query("4", "select a from t where a>3 and a>1");
        Db.due("the other way", 2, db.store.steps());
        db.query("2", "select a from t where a>1 and a<=2 and a<9");
        Db.due("lower and upper", 2, db.store.steps());
    }

    private static void found() {
        db = new Db();
        db.ok("create table t (a int,b text)").ok("create index i on t(a)").ok("create index j on t(b,a)");
        db.ok("insert into t values (5,'x'),(3,'y'),(null,'x'),(5,null),(4,'xy'),(-2,'x')");
        steps("5; 3; 5; 4", 8, "select a from t where a>-2");
        steps("5; 3; 5; 4; -2", 10, "select a from t where a>=-2");
        steps("-2", 2, "select a from t where a<3");
        steps("3; -2", 4, "select a from t where a<=3");
        steps("3; 4", 4, "select a from t where a between 3 and 4");
        steps("", 0, "select a from t where a between 4 and 3");
        steps("", 0, "select a from t where a=null");
        steps("", 0, "select a from t where a>null");
        steps("", 0, "select a from t where a between 1 and null");
        steps("5; -2", 4, "select a from t where b='x' and a<9");
        steps("5; null; -2", 6, "select a from t where b='x'");
        steps("3; 4", 4, "select a from t where b>'x'");
        steps("5; null; 4; -2", 8, "select a from t where b>='x' and b<'y'");
        steps("4", 2, "select a from t where b>'x' and b<'y'");
        steps("5; 5", 4, "select a from t where a=5");
        steps("5", 4, "select a from t where a=5 and b is null");
        // All conditions are evaluated for each row none the less.
        steps("", 4, "select a from t where a=5 and 0");
        steps("6", 6, "select count(*) from t");
    }

    private static void steps(String want, int steps, String text) {
        db.query(want, text);
        Db.due("steps of " + text, steps, db.store.steps());
    }

    private static void numbers() {
        db = new Db();
        db.ok("create table t (a int,b int unique,c int,unique(c,a))");
        db.ok("create table x (a int)").ok("create index p on t(a)").ok("create index q on t(a,c)");
        used("2:2", "select 1 from t where a=1");
        used("1:4", "select 1 from t where a=1 and c=1");
        used("3:3", "select 1 from t where a=1 and c>1");
        used("0:2", "select 1 from t where a=1 and b=1");
        // A new index takes the smallest free number, and stands by it.
        db.ok("drop table x").ok("create index r on t(a)");
        used("2:2", "select 1 from t where a=1");
        db.ok("drop index p");
        used("3:3", "select 1 from t where a=1 and c>1");
        db.ok("drop index r");
        used("2:3", "select 1 from t where a=1 and c>1");
    }

    private static void changes() {
        db = new Db();
        db.ok("create table t (a int unique,b int)").ok("insert into t values (1,1),(2,2),(3,3),(4,4),(5,5)");
        db.ok("update t set b=9 where a>=4");
        Db.due("steps of update", "4 2", db.store.steps() + " " + db.store.changed());
        db.ok("delete from t where a=2 and b=2");
        Db.due("steps of delete", "2 1", db.store.steps() + " " + db.store.changed());
        db.ok("delete from t where b=9");
        Db.due("all rows", "4 2", db.store.steps() + " " + db.store.changed());
        db.ok("update t set a=a+10 where a>0");
        db.query("11 1; 13 3", "select * from t");
        db.query("", "select a from t where a=1");
        db.query("13", "select a from t where a=13");
    }

    private static void sameAnswers() {
        String[] texts = {"a=2", "a>1 and b='x'", "b='x' and a between 1 and 2", "b<'y'", "b>='' and a<3", "a=null", "c=1 and b='y'"};
        Db plain = new Db();
        db = new Db();
        for (Db each : new Db[] {plain, db}) {
            each.ok("create table t (a int,b text,c int)");
            if (each == db) each.ok("create index i on t(a)").ok("create index j on t(b,a)").ok("create index k on t(c,b,a)");
            for (int i = 0; i < 5; i++) {
                each.ok("insert into t values (" + i + ",'x'," + i % 2 + "),(" + (3 - i) + ",'y',null),(null,'',1),(2,null,1)");
            }
        }
        for (String text : texts) {
            String q = "select * from t where " + text;
            Db.due(q, plain.rows(q), db.rows(q));
            Db.due(q + " uses an index", true, db.prepare(1, q) == 0 && db.store.indexUsed(1, 0) >= 0);
        }
    }
}
