/** Promise 4: errors 3 to 6. A ^ in a text marks the place of its error, and is left out. */
public final class CheckTest {
    private static Db db;

    public static void main(String[] args) {
        db = new Db();
        db.ok("create table t (a int unique,b text,c int,unique(b,c))");
        db.ok("create table u (a int,d text not null)");
        db.ok("create view v as select a,b as w,null as n from t");
        db.ok("create index i on t(c)");
        names();
        types();
        aggregates();
        groups();
        sources();
        items();
        queries();
        inQueries();
        createTables();
        creates();
        changes();
        limitsOfDefinitions();
        brokenViews();
        levels();
        Db.end();
    }

    private static void error(int error, String marked) {
        int place = marked.indexOf('^');
        db.error(error, place, marked.substring(0, place) + marked.substring(place + 1));
    }

    private static void right(String text) {
        db.error(0, -1, text);
    }

    private static void names() {
        error(3, "select ^x from t");
        error(3, "select ^a");
        error(3, "select ^a from t,u");
        right("select b,d from t,u");
        right("select t.a,u.a from t,u");
        error(3, "select ^x.a from t");
        error(3, "select t.^x from t");
        error(3, "select ^t.a from t p");
        right("select p.a from t p");
        error(3, "select ^a0 from (select 1 as az) x");
        error(3, "select ^a9 from (select 1 as a_) x");
        error(3, "select ^aa from (select 1 as a) x");
        error(3, "select ^abcdefghia from (select 1 as abcdefghi) x");
        // Behind on only the sources up to the joined one are seen.
        error(3, "select 1 from t p join u q on ^r.a=1 join t r on 1");
        right("select 1 from t p join u q on d='x' join t r on r.a=p.a");
        error(3, "select 1 from u p join u q on 1 join t r on ^a=1");
        right("select 1 from t p join u q on p.b=d");
        // A name alone means the innermost place that has it, even if another one is further out.
        right("select 1 from t where exists (select a from u)");
        error(3, "select 1 from t where exists (select ^a from u p,u q)");
        right("select 1 from u where exists (select c,d from t)");
        right("select 1 from t p where exists (select 1 from t where p.a=a)");
        error(3, "select 1 from t p where exists (select 1 from t p where p.^d=1)");
        // A source that is a query sees nothing further out.
        error(3, "select 1 from t where exists (select 1 from (select ^b as x) y)");
        error(3, "select 1 from t p,(select ^p.a as x) y");
        error(3, "select 1 from t p join u on exists (select 1 from u z where ^q.a=1) join t q on 1");
        error(3, "insert into t values (1,'x',^a)");
        error(3, "insert into t select ^d,'x',1 from t");
        right("update t set a=t.a+c where t.b='x'");
        error(3, "update t set a=^u.a");
        error(3, "delete from t where ^d='x'");
        right("delete from t where exists (select 1 from u where u.a=t.a and t.c=1)");
    }

    private static void types() {
        error(4, "select a^+b from t");
        error(4, "select 'x'^*1");
        error(4, "select ^-'x'");
        error(4, "select ^not b from t");
        error(4, "select 1 ^and 'x'");
        error(4, "select b ^or 1 from t");
        error(4, "select 1^||'x'");
        error(4, "select 1^='x'");
        error(4, "select 'x' ^between 'a' and 1");
        error(4, "select 1 ^between 'a' and 'b'");
        error(4, "select 1 ^in (1,null,'x')");
        error(4, "select null not ^in (1,'x')");
        error(4, "select 1 ^like 'x'");
        error(4, "select 'x' ^like 1");
        error(4, "select ^length(1)");
        error(4, "select ^abs('x')");
        error(4, "select ^substr(1,1,1)");
        error(4, "select ^substr('x','x',1)");
        error(4, "select ^substr('x',1,'x')");
        error(4, "select ^coalesce(null,1,'x')");
        error(4, "select case ^when 'x' then 1 end");
        error(4, "select case when 1 then 1 ^when 'x' then y end");
        error(4, "select ^case when 1 then 1 when 2 then null else 'x' end");
        error(4, "select ^sum(b) from t");
        right("select null+1,null||'x',-null,not null,length(null),abs(null),substr(null,null,null),null like null");
        right("select coalesce(null,null)||'x',coalesce(null,1)+1,case when null then null end||'x'");
        right("select min(b)||'x',max(a)+1,count(b)+1,sum(null)+1,(b is null)+1 from t group by b");
        error(4, "select min(b)^+1 from t");
        error(4, "select ?^||'x'");
        error(4, "select $^+1");
        error(4, "select w^+1 from v");
        right("select n+1,n||'x' from v");
        // Parts come first, from the left to the right, each with all that is in it.
        error(4, "select ('x'^+1)+('x'*1)");
        error(3, "select 1+^y+'x'");
        error(4, "select 1^+'x'+y");
        error(4, "select 1 from t ^where b");
        error(4, "select 1 ^having 'x'");
        error(4, "select 1 from t join u ^on 'x'");
        right("select 1 from t where null having null");
    }

    private static void aggregates() {
        error(5, "select 1 from t where ^count(*)>1");
        error(5, "select 1 from t join u on ^max(1)=1");
        error(5, "select sum(^count(*)) from t");
        error(5, "select sum(1+^max(y)) from t");
        right("select sum((select max(a) from u)) from t");
        right("select 1 from t where a=(select max(a) from u)");
        error(5, "select 1 from t where a=(select 1 from u where ^max(y)=1)");
        error(5, "insert into t values (^count(*),'x',1)");
        error(5, "update t set a=^max(a)");
        error(5, "delete from t where ^sum(y)");
        error(5, "create table z (a int,check(^max(y)))");
        right("select count(*) having count(*)=1");
        right("insert into t values ((select count(*) from t),'x',1)");
    }

    private static void groups() {
        error(5, "select ^b from t group by a");
        error(5, "select a from t group by a having ^c=1");
        error(5, "select ^a,count(*) from t");
        error(5, "select ^t.a from t having 1");
        right("select t.a,count(b) from t group by a");
        right("select a from t group by t.a having max(c)=1");
        error(5, "select (select d from u where u.a=^b) from t group by t.a");
        right("select (select d from u where u.a=t.a) from t group by t.a");
        right("select max((select d from u where u.a=t.c)) from t");
        error(5, "select (select max(u.a+^c) from u) from t group by t.a");
        error(5, "select ^p.a from t p,t q group by q.a");
        // In where and on of a grouped core all columns may stand.
        right("select count(*) from t where b='x'");
        error(3, "select 1 from t group by ^d");
        error(3, "select 1 from t,u group by ^a");
        error(3, "select 1 from t group by ^u.a");
        error(3, "select 1 from t group by t.^d");
        error(3, "select (select 1 from u group by ^c) from t");
        right("select 1 from t group by a,a");
    }

    private static void sources() {
        error(3, "select 1 from ^x");
        error(3, "select 1 from ^i");
        error(3, "select 1 from t,^t");
        error(3, "select 1 from t,u ^t");
        error(3, "select 1 from t join (select 1 as a) ^t on y");
        error(3, "select 1 from ^(select 1) x");
        error(3, "select 1 from ^(select a,c as a from t) x");
        error(3, "select 1 from (select ^y) x");
        right("select x.a from (select a,b as c from t) x");
        right("select v.w from v");
        String five = "(select 1 as a from t x,t y,t z,t k)";
        right("select 1 from " + five + " a," + five + " b");
        right("select 1 from " + five + " a," + five + " b,t c,t d");
        error(6, "select 1 from t a," + five + " b," + five + " c,(select 1 as a from ^t) d");
        error(6, "delete from t where exists (select 1 from " + five + " a," + five
            + " b where exists (select 1 from t e,t f,^t g))");
        right("delete from t where exists (select 1 from " + five + " a," + five + " b)");
    }

    private static void items() {
        error(5, "select ^*");
        error(5, "select 1,^* from t group by a");
        error(5, "select ^* from t having 1");
        error(5, "select ^*,count(*) from t");
        right("select *,* from t");
        error(6, "select *,*,^* from t");
        right("select *,*,1,2 from t");
        error(6, "select 1,2,*,*,^3 from t");
        error(6, "select *,*,1,2,^a from t");
        error(3, "select *,*,1,2,^y from t");
        error(6, "select *,*,1,2,^(a) from t");
    }

    private static void queries() {
        error(6, "select 1 union ^select 1,2");
        error(6, "select 1,2 union select 1,2 except ^select 1");
        error(4, "select 1 union ^select 'x'");
        right("select null union select 'x' union select null");
        error(4, "select null union select 'x' union ^select 1");
        right("select a from t union select c from t order by a");
        error(3, "select a from t order by ^b");
        error(3, "select a,c as a from t order by ^a");
        error(3, "select a+1 from t order by ^a");
        right("select (a) from t order by a");
        right("select a as x from t order by x");
        right("select t.a from t order by a");
        error(3, "select a as x from t order by ^a");
        error(3, "select 1 order by ^0");
        error(3, "select 1 order by ^2");
        error(3, "select 1,2 order by 2,1 desc,^999999999999999999");
        error(3, "select 1 union select 2 order by ^x");
        // Cores come first, in order, then the keys.
        error(3, "select ^y order by 3");
        error(3, "select 1 union select ^y order by 3");
    }

    private static void inQueries() {
        error(6, "select (^select 1,2)");
        error(6, "select 1 in (^select 1,2)");
        right("select exists (select 1,2)");
        error(4, "select 1 ^in (select 'x')");
        error(4, "select b not ^in (select a from u) from t");
        right("select b in (select null) from t");
        right("select (select b from t)||'x'");
        error(4, "select (select b from t)^+1");
        error(6, "select (^select * from t)");
    }

    private static void createTables() {
        error(3, "create table ^t (a int)");
        error(3, "create table ^i (a int)");
        error(3, "create table ^v (a int,a int)");
        error(3, "create table z (a int,^a text)");
        error(4, "create table z (a int ^default 'x')");
        error(4, "create table z (a text ^default -1)");
        right("create table z (a int default null,b text default null)");
        error(3, "create table z (a int,unique(^b))");
        error(3, "create table z (a int,unique(a,^a))");
        error(4, "create table z (a int,^check('x'))");
        right("create table z (a int,check(z.a>1 and a<3),check(null))");
        error(3, "create table z (a int,check(^t.a))");
        error(5, "create table z (a int,check(a in (^select y)))");
        error(3, "create table z (a int,check(^y in (select 1)))");
        error(5, "create table z (a int,check(exists (^select y)))");
        error(5, "create table z (a int,check((^select y)))");
        error(5, "create table z (a int,check(a>^?))");
        error(3, "create table z (a int references ^x(a))");
        error(3, "create table z (a int references ^v(a))");
        error(3, "create table z (a int references t(^x))");
        error(5, "create table z (a int references t(^c))");
        error(5, "create table z (a text references t(^b))");
        error(4, "create table z (a text references t(^a))");
        right("create table z (a int references t(a),b int unique references z(b))");
        error(5, "create table z (a int references z(^b),b int,unique(a,b))");
        right("create table z (a int references z(b),b int,unique(b))");
        // First the columns, then the rules, then the references.
        error(3, "create table z (a int references x(a),^a int,unique(b))");
        error(3, "create table z (a int references x(a),b int,unique(^c))");
        error(4, "create table z (a int ^default 'x',a int)");
    }

    private static void creates() {
        error(3, "create index ^i on t(a)");
        error(3, "create index ^t on t(a)");
        error(3, "create index j on ^x(a)");
        error(3, "create index j on ^v(a)");
        error(3, "create index j on t(a,^x)");
        error(3, "create index j on t(a,b,^a)");
        right("create unique index j on t(a,b,c)");
        error(3, "create view ^v as select 1 as a");
        error(3, "create view ^t as select y");
        error(3, "create view z as select ^y");
        error(3, "create view ^z as select 1");
        error(3, "create view ^z as select a,c as a from t");
        right("create view z as select 1 as a,2 as b");
        error(5, "create view z as select ^? as a");
        error(5, "create view z as select 1 as a limit ^?");
        error(5, "create view z as select 1 as a limit 1 offset ^?");
        error(3, "drop table ^x");
        error(3, "drop table ^v");
        error(3, "drop index ^t");
        error(3, "drop view ^i");
        right("drop table t");
        right("drop index i");
        right("drop view v");
        right("rollback to x");
        right("commit");
    }

    private static void changes() {
        error(3, "insert into ^x values (1)");
        error(3, "insert into ^v values (1,'x',1)");
        error(3, "insert into t (a,^x) values (1,2)");
        error(3, "insert into t (a,b,^a) values (1,2,3)");
        error(6, "insert into t values ^(1,'x')");
        error(6, "insert into t (a,b) values (1,'x'),^(1,'x',1)");
        error(4, "insert into t values (1,^2,3)");
        error(4, "insert into t (b,a) values (^(1+2),'x')");
        error(3, "insert into t (b,a) values ('x',^y)");
        error(4, "insert into t (b,a) values (null,^'x')");
        error(4, "insert into t values (1,^?,3)");
        right("insert into t values (?,$,null)");
        // Row by row: the number of things, then each of them.
        error(4, "insert into t values (1,^2,3),(1)");
        error(6, "insert into t ^select 1,'x'");
        error(4, "insert into t ^select 1,2,3");
        error(4, "insert into t ^select 'x','x',3");
        error(4, "insert into t ^select 1,'x','x'");
        right("insert into t (c,b) select a,d from u");
        error(4, "insert into t (b,c) ^select a,d from u");
        error(3, "update ^x set a=1");
        error(3, "update ^v set a=1");
        error(3, "update t set ^x=y");
        error(3, "update t set a=1,^a=y");
        error(3, "update t set a=^y,x=1");
        error(4, "update t set ^a='x'");
        error(4, "update t set a=1,^b=?");
        error(4, "update t set a=1 ^where b");
        error(4, "update t set ^a='x' where y");
        error(3, "delete from ^x");
        error(3, "delete from ^v");
        error(3, "delete from t where ^y");
        error(4, "delete from t ^where 'x'");
    }

    private static void limitsOfDefinitions() {
        Db ahead = db;
        db = new Db();
        for (int i = 0; i < 4; i++) db.ok("create table t" + i + " (a int)");
        for (int i = 0; i < 3; i++) db.ok("create index i" + i + " on t0(a)");
        for (int i = 0; i < 3; i++) db.ok("create view v" + i + " as select a from t0");
        error(6, "create table ^x (a int,a int)");
        error(6, "create index ^x on y(a)");
        error(6, "create view ^x as select y");
        error(3, "create view ^t0 as select y");
        db.ok("drop view v1");
        right("create table x (a int)");
        db = ahead;
    }

    private static void brokenViews() {
        Db ahead = db;
        db = new Db();
        db.ok("create table t (a int,b int)").ok("create view v as select a,b from t where b>1").ok("create view w as select * from v");
        right("select b from w");
        db.ok("drop table t");
        error(3, "select 1 from ^v");
        error(3, "select 1 from ^w");
        db.ok("create table t (a text,b text)");
        error(3, "select 1 from ^v");
        db.ok("drop table t").ok("create table t (b int,a text)");
        right("select a||'x',b+1 from w");
        db = ahead;
    }

    private static void levels() {
        right("select (select (select (select 1)))");
        error(6, "select (select (select (select (^select y))))");
        error(6, "select 1 from (select 1 as a from (select 1 as a from (select (^select y) as a) x) y) z");
        right("delete from t where a=(select (select (select (select 1))))");
        error(6, "delete from t where a=(select (select (select (select (^select y)))))");
        Db ahead = db;
        db = new Db();
        db.ok("create table t (a int)").ok("create view v as select a from t").ok("create view w as select a from v");
        db.ok("create view x as select a from w").ok("create view y as select a from x");
        right("select a from x");
        error(3, "select a from ^y");
        error(3, "select (select a from ^x)");
        error(3, "create view z as select a from ^y");
        // Sources inside of views count; an error 6 in there is an error 3 at the view.
        Db.due("wide view", 0, db.sql("create view f as select p.a from t p,t q,t r,t s"));
        right("select 1 from f p,f q");
        error(3, "select 1 from f p,f q,^f r");
        error(3, "select 1 from t a,f p,v b,^f q");
        error(6, "select 1 from f p,f q where exists (select 1 from t a,t b,^t c)");
        db = ahead;
    }
}
