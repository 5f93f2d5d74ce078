/** Promises 12, 14, 15 and 17 to 21: what expressions and queries tell, and how many steps they take. */
public final class QueryTest {
    private static Db db;

    public static void main(String[] args) {
        numbers();
        conditions();
        texts();
        cases();
        inQueries();
        joins();
        groups();
        aggregates();
        cores();
        sorting();
        bounds();
        steps();
        views();
        Db.end();
    }

    private static void is(String want, String items) {
        db.query(want, "select " + items);
    }

    private static void numbers() {
        db = new Db();
        is("3 -1 6 3 1", "1+2,1-2,2*3,7/2,7%2");
        is("-3 -1 -3 1 3", "-7/2,-7%2,7/-2,7%-2,-7/-2");
        is("null null null null", "1/0,1%0,null+1,2*null");
        is("2 -4 14 20", "10-5-3,2-(3+3),2+3*4,(2+3)*4");
        is("999999999999999999 -999999999999999999", "999999999999999999,-999999999999999999");
        String max = "(999999999999999999*9+223372036854775816)";
        is("9223372036854775807", max);
        is("null null null", max + "+1,-" + max + "-2," + max + "*2");
        is("-9223372036854775808 null null", "-" + max + "-1,-(-" + max + "-1),abs(-" + max + "-1)");
        is("null 0 null null", "(-" + max + "-1)/-1,(-" + max + "-1)%-1,(-" + max + "-1)*-1,-1*(-" + max + "-1)");
        is("5 5 null 0", "abs(-5),abs(5),abs(null),abs(0)");
        is("6 -9", "2*-(-3),-3*3");
        db.prepare(1, "select ?*?,?+?,?-?");
        long[] bound = {Long.MIN_VALUE, -1, Long.MAX_VALUE, 1, Long.MIN_VALUE, 1};
        for (int i = 0; i < 6; i++) db.store.bindNumber(1, i, bound[i]);
        db.store.run(1);
        Db.due("outside of 64 bits", "null null null", db.told());
        bound = new long[] {1L << 62, -2, Long.MAX_VALUE, Long.MIN_VALUE, -1, Long.MAX_VALUE};
        for (int i = 0; i < 6; i++) db.store.bindNumber(1, i, bound[i]);
        db.store.run(1);
        Db.due("just in 64 bits", "-9223372036854775808 -1 -9223372036854775808", db.told());
    }

    private static void conditions() {
        db = new Db();
        is("1 0 1 1 0 0", "1=1,1<>1,1<2,1<=1,1>2,1>=2");
        is("null null null", "1=null,null<>null,null<1");
        is("0 1 1 0", "1 is null,null is null,1 is not null,null is not null");
        is("0 1 null 0", "not 1,not 0,not null,not -3");
        is("0 0 1 null null 0 0", "0 and 1,1 and 0,2 and -1,null and 1,1 and null,null and 0,0 and null");
        is("1 1 0 null null 1 1", "0 or 1,5 or 0,0 or 0,null or 0,0 or null,null or 1,1 or null");
        is("1 0 0 1", "2 between 1 and 2,2 between 3 and 1,0 between 1 and 2,2 not between 3 and 4");
        is("null 0 null 0 1 null", "null between 1 and 2,5 between null and 2,1 between null and 2,0 between 1 and null,"
            + "0 not between 1 and null,2 not between 1 and null");
        is("1 0 null null 1", "1 in (2,1),3 in (2,1),3 in (2,null),null in (1),1 in (null,1)");
        is("0 1 null", "1 not in (2,1),3 not in (2,1),3 not in (2,null)");
        is("1 1 0 1 0", "'a'<'b','a'<'ab','b'<'ab',''<'a','a'='Z'");
        is("1 0", "1 or 0 and 0,not 1 or 0");
    }

    private static void texts() {
        db = new Db();
        is("'abc' null null 'it's'", "'a'||'b'||'c','a'||null,null||'a','it''s'");
        String t12 = "'abcdefghijkl'";
        String t60 = t12 + "||" + t12 + "||" + t12 + "||" + t12 + "||" + t12;
        is("60 null", "length(" + t60 + "),length(" + t60 + "||'x')");
        is("0 3 null", "length(''),length('abc'),length(null)");
        is("'bc' 'b' '' 'abc' 'a' '' ''", "substr('abc',2,9),substr('abc',2,1),substr('abc',2,0),substr('abc',-1,9),"
            + "substr('abc',0,2),substr('abc',3,-1),substr('abc',9,1)");
        is("null null null", "substr(null,1,1),substr('a',null,1),substr('a',1,null)");
        db.prepare(1, "select substr('abc',?,?)");
        long[][] bound = {{2, Long.MAX_VALUE}, {Long.MAX_VALUE, Long.MAX_VALUE}, {Long.MIN_VALUE, Long.MIN_VALUE},
            {Long.MIN_VALUE, Long.MAX_VALUE}, {-5, 7}, {Long.MIN_VALUE, 1}};
        String[] want = {"'bc'", "''", "''", "''", "'a'", "''"};
        for (int i = 0; i < want.length; i++) {
            db.store.bindNumber(1, 0, bound[i][0]);
            db.store.bindNumber(1, 1, bound[i][1]);
            db.store.run(1);
            Db.due("substr " + i, want[i], db.told());
        }
        is("1 1 0 1 0 1", "'abc' like 'a%','abc' like '%','abc' like 'a','abc' like '___','abc' like '__','abc' like '%b%'");
        is("1 0 1 1 0 1", "'' like '','a' like '','' like '%','' like '%%','' like '_','a%b' like 'a%b'");
        is("1 0 1", "'axbxc' like '%_c','aab' like 'a_a','aab' like '%a%b'");
        is("null null 0 1", "null like 'a','a' like null,'a' not like 'a','a' not like 'b'");
        is("1 1", "'abababc' like '%abc','mississipp' like 'm%iss%ipp'");
    }

    private static void cases() {
        db = new Db();
        is("2 3 null 'z'", "case when 0 then 1 when 5 then 2 else 3 end,case when null then 1 else 3 end,"
            + "case when 0 then 1 end,case when 1 then 'z' when 1 then 'y' end");
        is("1 null 'x' 2", "coalesce(null,1,2),coalesce(null,null),coalesce('x'),coalesce(2,1/0)");
        // What is not evaluated takes no steps.
        db.ok("create table t (a int)").ok("insert into t values (1),(2),(3)");
        int[] steps = {0, 0, 0, 3, 0, 3, 3};
        String q = "(select count(*) from t)";
        String[] items = {"case when 1 then 1 else " + q + " end", "coalesce(1," + q + ")", "0 and " + q, "1 and " + q,
            "1 or " + q, "1 in (2," + q + ",1)", q + " between 1 and 2"};
        for (int i = 0; i < items.length; i++) {
            db.sql("select " + items[i]);
            Db.due(items[i], steps[i], db.store.steps());
        }
        db.sql("select 1 in (1," + q + ")");
        Db.due("in ends at what is equal", 0, db.store.steps());
        db.sql("select null and " + q);
        Db.due("and behind null", 3, db.store.steps());
        db.sql("select 5 between 6 and " + q);
        Db.due("between evaluates all", 3, db.store.steps());
    }

    private static void inQueries() {
        db = new Db();
        db.ok("create table t (a int,b int)").ok("insert into t values (1,null),(2,5),(3,5)");
        is("1 null null", "(select a from t),(select b from t),(select a from t where a>9)");
        is("1 0", "exists (select 1 from t),exists (select 1 from t where a>9)");
        is("1 0 null 0 null", "2 in (select a from t),9 in (select a from t),9 in (select b from t),null in (select a from t where 0),"
            + "null in (select a from t)");
        is("1 0", "5 in (select b from t),5 not in (select b from t)");
        db.query("1 2; 2 1; 3 0", "select a,(select count(*) from t q where q.a>t.a) from t");
        db.query("3", "select a from t p where not exists (select 1 from t q where q.a>p.a)");
        db.query("2; 3", "select a from t p where a in (select max(a) from t q where q.b=p.b union select 2)");
        db.query("1 1; 2 2; 3 3", "select a,(select x from (select 1 as y) z,(select 1 as x union select 2 union select 3) w where x=p.a) from t p");
    }

    private static void joins() {
        db = new Db();
        db.ok("create table t (a int,b text)").ok("create table u (a int,c text)");
        db.ok("insert into t values (1,'x'),(2,'y'),(3,null)").ok("insert into u values (2,'p'),(1,'q'),(2,'r')");
        db.query("1 2; 1 1; 1 2; 2 2; 2 1; 2 2; 3 2; 3 1; 3 2", "select t.a,u.a from t,u");
        db.query("1 'q'; 2 'p'; 2 'r'", "select t.a,c from t join u on t.a=u.a");
        db.query("1 'q'; 2 'p'; 2 'r'; 3 null", "select t.a,c from t left join u on t.a=u.a");
        db.query("3 null", "select t.a,c from t left join u on t.a=u.a where c is null");
        db.query("1 null; 2 null; 3 null", "select t.a,c from t left join u on null");
        db.query("1 'q' null; 2 'p' null; 2 'r' 3; 3 null null",
            "select t.a,u.c,v.a from t left join u on t.a=u.a left join t v on v.a=3 and u.c='r'");
        db.query("1 'x' 1 'q'", "select * from t,u where t.a=u.a and t.a<2");
        db.query("1 10; 2 20", "select a,x from t join (select a as k,a*10 as x from t where a<3) s on k=a");
        db.query("1", "select 1 where 1");
        db.query("", "select 1 where 0");
        db.query("", "select a from t where null");
    }

    private static void groups() {
        db = new Db();
        db.ok("create table t (a int,b text)");
        db.ok("insert into t values (2,'x'),(null,'y'),(1,'x'),(2,null),(null,'x')");
        db.query("2 2; null 2; 1 1", "select a,count(*) from t group by a");
        db.query("'x' 3 2; 'y' 1 null; null 1 2", "select b,count(*),max(a) from t group by b");
        db.query("2 2; null 2", "select a,count(*) from t group by a having count(*)>1");
        db.query("5", "select count(*) from t");
        db.query("0 null null", "select count(*),sum(a),min(b) from t where 0");
        db.query("", "select count(*) from t where 0 group by a");
        db.query("", "select count(*) from t having count(*)>5");
        db.query("1", "select 1 from t where 0 having 1");
        db.query("2 1", "select 2,count(*)");
        db.query("2; 1", "select distinct count(*) from t group by a");
        db.query("2 'x'; null 'y'; 1 'x'; 2 null; null 'x'", "select a,b from t group by a,b");
        db.query("2 1; null 0; 1 1", "select a,(select count(*) from t q where q.a=t.a and q.b='x') from t group by a");
        db.query("12; null; 11", "select a+10 from t group by a");
        db.query("4; null; 1", "select sum((select t.a from t z where z.b='y')) from t group by a");
    }

    private static void aggregates() {
        db = new Db();
        db.ok("create table t (a int,b text)");
        db.ok("insert into t values (2,'x'),(null,'y'),(1,'x'),(2,null),(3,'ab')");
        db.query("5 4 4 3 3", "select count(*),count(a),count(b),count(distinct a),count(distinct b) from t");
        db.query("8 6 1 3 'ab' 'y'", "select sum(a),sum(distinct a),min(a),max(distinct a),min(b),max(b) from t");
        db.query("null null", "select sum(a),max(b) from t where a is null and b is null");
        db.query("10 4", "select sum(a)+2,length(max(b))+length(min(b))+count(distinct 7) from t");
        db.ok("create table m (a int)");
        db.prepare(1, "insert into m values (?)");
        for (long n : new long[] {Long.MAX_VALUE, 1, -5}) {
            db.store.bindNumber(1, 0, n);
            db.store.run(1);
        }
        db.query("null 9223372036854775807", "select sum(a),max(a) from m");
        db.query("9223372036854775803", "select sum(a) from (select a from m order by a) x");
        db.query("null; null", "select sum(a) from m union all select sum(a) from m");
        db.query("null", "select sum(a) from m union select null");
        db.query("1", "select sum(a) is null from m");
    }

    private static void cores() {
        db = new Db();
        db.ok("create table t (a int)").ok("insert into t values (2),(1),(2),(null),(null)");
        db.query("2; 1; null", "select distinct a from t");
        db.query("2; 1; 2; null; null; 2; 1; 2; null; null", "select a from t union all select a from t");
        db.query("2; 1; null; 7", "select a from t union select 7");
        db.query("2; 1; null", "select a from t union all select a from t union select 2");
        db.query("2; 1; null; 2", "select a from t union select 1 union all select 2");
        db.query("2; null", "select a from t except select 1");
        db.query("1; null", "select a from t intersect select 1 union select null");
        db.query("1; null", "select a from t intersect select a from t where a is null or a=1");
        db.query("", "select a from t except select a from t");
        db.query("1 'x'", "select 1,'x' union select 1,'x'");
        // Rows are the same only if all their values are.
        db.ok("create table w (a int,b text,c int)").ok("insert into w values (1,'x',2),(1,'x',3),(1,'y',2),(1,'x',2),(null,'x',2)");
        db.query("1 'x' 2; 1 'x' 3; 1 'y' 2; null 'x' 2", "select distinct * from w");
        db.query("1 'x'; 1 'y'; null 'x'; 2 'x'", "select a,b from w union select 2,'x'");
        db.query("1 'x' 3; 1 'y' 2; null 'x' 2", "select * from w except select 1,'x',2");
        db.query("1 'y'", "select a,b from w intersect select c-1,'y' from w");
        db.query("'x' 2 3; 'x' 3 1; 'y' 2 1", "select b,c,count(*) from w group by b,c");
    }

    private static void sorting() {
        db = new Db();
        db.ok("create table t (a int,b text,c int)");
        db.ok("insert into t values (2,'b',1),(null,'a',2),(1,'ab',3),(2,null,4),(1,'a',5)");
        db.query("2; 3; 5; 1; 4", "select c from (select c,a from t order by a) x");
        db.query("null 2; 1 3; 1 5; 2 1; 2 4", "select a,c from t order by a");
        db.query("2 1; 2 4; 1 3; 1 5; null 2", "select a,c from t order by a desc");
        db.query("null 4; 'a' 2; 'a' 5; 'ab' 3; 'b' 1", "select b,c from t order by b");
        db.query("null 2; 1 5; 1 3; 2 4; 2 1", "select a,c from t order by 1,2 desc");
        db.query("1; 2", "select c from t order by c limit 2");
        db.query("3; 4", "select c from t order by c limit 2 offset 2");
        db.query("5", "select c from t order by c limit 9 offset 4");
        db.query("", "select c from t limit 0");
        db.query("", "select c from t limit 9 offset 9");
        db.query("5; 4; 3", "select c from t union select 3 order by c desc limit 3");
        db.prepare(1, "select c from t limit ? offset ?");
        db.store.run(1);
        Db.due("null limit", 5, db.store.rows());
        db.store.bindNumber(1, 0, -1);
        db.store.bindNumber(1, 1, -1);
        db.store.run(1);
        Db.due("negative limit", 5, db.store.rows());
        db.store.bindNumber(1, 0, Long.MAX_VALUE);
        db.store.bindNumber(1, 1, 4);
        db.store.run(1);
        Db.due("offset 4", "5", db.told());
        db.store.bindNumber(1, 1, Long.MAX_VALUE);
        db.store.run(1);
        Db.due("a great offset", 0, db.store.rows());
    }

    private static void fill(String table, int rows) {
        for (int at = 0; at < rows; at += 8) {
            StringBuilder b = new StringBuilder("insert into ").append(table).append(" values ");
            for (int i = at; i < at + 8 && i < rows; i++) b.append(i > at ? ",(" : "(").append(i).append(')');
            db.ok(b.toString());
        }
    }

    private static void bounds() {
        db = new Db();
        db.ok("create table t (a int)");
        fill("t", 60);
        db.ok("select a from t");
        Db.due("60 rows", 60, db.store.rows());
        db.ok("create table u (a int)");
        fill("u", 61);
        db.store.checkpoint();
        db.code(8, "select a from u");
        Db.due("steps of code 8", "1500 0 0", db.store.steps() + " " + db.store.rows() + " " + db.store.columns());
        db.code(8, "select a from u limit 1");
        db.code(8, "select exists (select a from u)");
        db.ok("select a from u where a>0");
        db.ok("select distinct a/2 from u");
        db.code(8, "select a,count(*) from u group by a");
        db.ok("select a,count(*) from u where a<>7 group by a");
        db.code(8, "select a,count(*) from u group by a having 0");
        db.code(8, "select count(distinct a) from u");
        db.code(8, "select min(distinct a) from u");
        db.query("30", "select max(distinct a/2) from u");
        db.query("61", "select count(a) from u");
        db.code(8, "select a from t union all select 1");
        db.ok("select a from t union select 1");
        db.code(8, "select a from t union select 99");
        db.ok("select a from t union all select a from t where 0");
        db.ok("select a from t except select 1");
        db.query("1", "select a from t intersect select 1");
        db.code(8, "delete from u");
        db.code(8, "update u set a=1");
        db.ok("delete from u where a<60");
        db.query("60", "select a from u");
        db.code(8, "insert into u select t.a from t,t z");
    }

    private static void steps() {
        db = new Db();
        db.ok("create table t (a int)");
        fill("t", 38);
        db.store.checkpoint();
        db.query("1444", "select count(*) from t,t u");
        Db.due("a step for each row", 38 + 38 * 38, db.store.steps());
        // 38 + 38 * 38 steps, and then 38 or so more for the query in an item.
        db.query("1444 4", "select count(*),(select count(*) from (select 1 as x union select 2 union select 3 union select 4) x) "
            + "from t,t u");
        Db.due("steps of lists count, too", 38 + 38 * 38 + 4, db.store.steps());
        db.code(8, "select count(*),(select count(*) from t) from t,t u");
        db.ok("select count(*),count((select 1)) from t left join t u on 0");
        Db.due("a row of nulls is no step", 38 + 38 * 38, db.store.steps());
        db.ok("create table n (a int)").ok("insert into n values (1)");
        db.ok("select (select count(*) from t where t.a=n.a) from n");
        Db.due("steps of queries in items", 39, db.store.steps());
    }

    private static void views() {
        db = new Db();
        db.ok("create table t (a int,b text)").ok("insert into t values (1,'x'),(2,'y'),(3,'z')");
        db.ok("create view v as select a*2 as d,b from t where a>1 order by d desc");
        db.query("6 'z'; 4 'y'", "select * from v");
        Db.due("steps of a view", 5, db.store.steps());
        db.query("6 4; 4 6", "select p.d,q.d from v p,v q where p.d<>q.d");
        db.query("2", "select count(*) from v");
        db.ok("insert into t values (4,'w')");
        db.query("8 'w'; 6 'z'; 4 'y'", "select d,b from v");
        db.query("8; 6", "select (select d from v where v.d=2*t.a) from t where t.a>2 order by 1 desc");
        db.ok("create view w as select b from v where d in (select a from t)");
        db.query("'y'", "select b from w");
    }
}
