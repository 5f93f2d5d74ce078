/**
 * Promises 4 and 5: the edges that the document names of what is checked (errors 3 to 6). A ^ in a text marks the place of its
 * error, and is left out.
 */
public final class CheckEdgesTest {
    private static Db db;

    public static void main(String[] args) {
        fresh();
        whatIsSeen();
        whatIsNotSeen();
        fivePlaces();
        asTheClientSees();
        namesInTwoSources();
        orderOfChecks();
        nullFitsAll();
        typesOfParts();
        conditionsOfTexts();
        queriesInChecks();
        parametersInCreates();
        aggregatesWhereTheyMayNot();
        groupedCores();
        refsOfGroups();
        twelveSources();
        sourcesOfViews();
        calledTheSame();
        eightColumns();
        stars();
        namesOfItems();
        fourLevels();
        joinedCores();
        keys();
        tablesThatAreMade();
        referencesThatAreMade();
        tenDefinitions();
        drops();
        inserts();
        updatesAndDeletes();
        Db.end();
    }

    private static void fresh() {
        db = new Db();
        db.ok("create table t (a int unique,b text,c int,unique(b,c))");
        db.ok("create table u (a int,d text not null)");
        db.ok("create view v as select a,b as w,null as n from t");
        db.ok("create index i on t(c)");
    }

    private static void error(int error, String marked) {
        int place = marked.indexOf('^');
        db.error(error, place, marked.substring(0, place) + marked.substring(place + 1));
    }

    private static void right(String text) {
        db.error(0, -1, text);
    }

    /** A core sees its sources; behind on only those up to the one that is joined there; a query in an expression sees further out. */
    private static void whatIsSeen() {
        right("select t.a,u.a from t,u where t.a=u.a group by t.a,u.a having t.a=u.a");
        right("select 1 from t p join t q on p.a=q.a join t r on p.a=r.a and q.a=r.a");
        error(3, "select 1 from t p join t q on p.a=^r.a join t r on 1");
        error(3, "select 1 from u join u q on ^c=1 join t on 1");
        right("select 1 from u join t on c=1");
        error(3, "select 1 from t p join t q on exists (select 1 where ^r.a=1) join t r on 1");
        right("select 1 from t p join t q on exists (select 1 where q.a=p.a) join t r on 1");
        // The sources of the query itself come first, then those further out.
        right("select (select d from u where u.a=t.c) from t");
        right("select (select (select (select t.c))) from t");
        right("select 1 from t where exists (select 1 from u where exists (select 1 from u q where q.a=t.c and q.d=u.d))");
        right("select 1 from t where b in (select b) and exists (select 1 order by 1)");
    }

    /** A query that is a source, a view, and the query of an insert see nothing further out; those behind values see nothing. */
    private static void whatIsNotSeen() {
        error(3, "select 1 from t,(select ^c as x) y");
        error(3, "select 1 from t,(select ^t.c as x) y");
        error(3, "select 1 from t where exists (select 1 from (select ^c as x) y)");
        error(3, "select 1 from t where exists (select 1 from (select 1 as x from u where a=^t.c) y)");
        error(3, "insert into t select ^c,'x',1");
        error(3, "insert into t (a) values (^a)");
        error(3, "insert into t (a) values ((select ^t.a))");
        right("insert into t (a) values ((select t.a from t))");
        error(3, "create view x as select ^t.a as a");
        // Limit sees nothing, keys only the columns of the query.
        error(3, "select a from t order by ^c");
    }

    /** The table of an update is seen through four queries. */
    private static void fivePlaces() {
        right("update t set a=(select (select (select (select t.c))))");
        right("update t set a=(select (select (select (select c from u))))");
        error(3, "update t set a=(select (select (select (select t.^d))))");
        right("delete from t where 1=(select (select (select (select t.c from u))))");
        db.ok("insert into t values (1,'x',5),(2,'x',6)").ok("update t set a=(select (select (select (select t.c))))");
        db.query("5 5; 6 6", "select a,c from t");
        db.ok("delete from t");
    }

    /** The statement is checked against the database as the client in use sees it, also if another one sees as long a text. */
    private static void asTheClientSees() {
        Db ahead = db;
        db = new Db();
        db.ok("create table t (a int)").ok("insert into t values (1)").ok("begin").ok("drop table t").ok("create table t (b int)");
        for (int i = 0; i < 3; i++) {
            right("select b from t");
            error(3, "select ^a from t");
            db.query("", "select b from t");
            db.store.use(1);
            right("select a from t");
            error(3, "select ^b from t");
            db.query("1", "select a from t");
            db.store.use(0);
        }
        db.ok("commit");
        db.store.use(1);
        right("select b from t");
        db.query("", "select b from t");
        db = ahead;
    }

    /** Error 3 at a name, if two sources of the innermost place that has it have it; error 3 at the first or the second name. */
    private static void namesInTwoSources() {
        error(3, "select ^a from t,u");
        error(3, "select ^a from t p,t q");
        right("select b,d from t,u");
        error(3, "select 1 from t p join t q on ^a=1");
        right("select 1 from t p join t q on p.a=q.a join (select 1 as k) r on k=1");
        // Further out there are two, but the innermost place that has it has one; and the other way.
        right("select (select a from u x) from t,u");
        error(3, "select (select ^a from t x,u y) from (select 1 as k) z");
        error(3, "select (select ^a) from t,u");
        error(3, "select ^a from (select 1 as z) x");
        error(3, "select ^z.a from t");
        error(3, "select t.^d from t");
        error(3, "select (select t.^d from t) from u t");
        error(3, "update t set a=^t2.a");
        error(3, "update t set a=t.^d");
        right("update t set a=(select t.a from u t where t.d='x')");
    }

    /** Checks go in the order that is told; the first error ends them. */
    private static void orderOfChecks() {
        error(3, "select 1 from ^nope where nope having 'x'");
        error(4, "select nope from t ^where 'x' group by nope");
        error(3, "select nope from t group by ^nope having 'x'");
        error(3, "select ^nope from t having 'x'");
        error(4, "select 1 from t,(select 1^+'x' as a) q where nope");
        error(4, "select 1 from t join u ^on 'x' join nope on 1");
        error(3, "select 1 from t join u on 1 join ^nope on 'x'");
        error(3, "select ^nope order by 9");
        error(4, "select 1^+'x' union select 1,2");
        error(6, "select 1 union ^select 1,2 order by 9");
        error(3, "select 1+(2+^nope)+('x'+1)");
        error(4, "select 1+(2^+'x')+nope");
        error(4, "select ('x'^+1)+nope");
    }

    /** null fits every type; otherwise a type fits itself alone. */
    private static void nullFitsAll() {
        right("select null+1,1+null,null||'x','x'||null,-null,not null,null and 1,null like 'x'");
        right("select null=1,null='x',null<null,null in (1),null in ('x'),1 in (null),'x' between null and null,null between 1 and 2");
        error(4, "select null ^in (1,'x')");
        error(4, "select null ^between 1 and 'x'");
        error(4, "select coalesce(1,null)^||'x'");
        error(4, "select ^coalesce(null,1,null,'x')");
        right("select coalesce(null,null)+1,coalesce(null,null)||'x',coalesce(null,'x')||'y'");
        right("select (case when 1 then null end)+1,(case when 1 then null when 1 then 'x' end)||'x'");
        error(4, "select (case when 1 then null else 'x' end)^+1");
        right("select n+1,n||'x',n=1,n='x' from v");
        right("select (select null)+1,(select null)||'x'");
        right("insert into t values (null,null,null)");
        right("select max(null)+1,min(null)||'x' from t");
    }

    /** The operators and calls, and the types that they take and make. */
    private static void typesOfParts() {
        String[] ofInts = {"X^+1", "1^+X", "X^-1", "1^-X", "X^*1", "1^*X", "X^/1", "1^/X", "X^%1", "1^%X", "^-X", "^not X", "X ^and 1", "1 ^and X",
            "X ^or 1", "1 ^or X", "^abs(X)", "^sum(X)", "^substr('a',X,1)", "^substr('a',1,X)"};
        for (String item : ofInts) {
            right("select " + item.replace("^", "").replace("X", "2"));
            right("select " + item.replace("^", "").replace("X", "(null)"));
            error(4, "select " + item.replace("X", "'x'"));
        }
        String[] ofTexts = {"X^||'a'", "'a'^||X", "X ^like 'a'", "'a' ^like X", "X not ^like 'a'", "^length(X)", "^substr(X,1,1)"};
        for (String item : ofTexts) {
            right("select " + item.replace("^", "").replace("X", "'x'"));
            right("select " + item.replace("^", "").replace("X", "(null)"));
            error(4, "select " + item.replace("X", "2"));
        }
        String[] ofOneType = {"X^=Y", "X^<>Y", "X^<Y", "X^<=Y", "X^>Y", "X^>=Y", "X ^between Y and Y", "X ^between X and Y", "Y not ^between X and X",
            "X ^in (Y)", "X ^in (X,X,Y)", "Y not ^in (X)", "^coalesce(X,Y)", "^case when 1 then X else Y end", "^case when 1 then X when 1 then Y end",
            "X ^in (select Y)"};
        for (String item : ofOneType) {
            right("select " + item.replace("^", "").replace("X", "1").replace("Y", "2"));
            right("select " + item.replace("^", "").replace("X", "'1'").replace("Y", "'2'"));
            error(4, "select " + item.replace("X", "1").replace("Y", "'2'"));
            error(4, "select " + item.replace("X", "'1'").replace("Y", "2"));
        }
        // What is an int, and what is a text.
        for (String item : new String[] {"1=1", "not 1", "1 is null", "'a' is null", "'a' like 'b'", "1 in (1)", "'a' between 'a' and 'b'", "length('a')",
            "abs(1)", "count(*)", "count('a')", "sum(1)", "max(1)", "exists (select 'a')", "(select 1)", "?", "1 and 1"}) {
            right("select (" + item + ")+1");
            error(4, "select (" + item + ")^||'x'");
        }
        for (String item : new String[] {"'a'||'b'", "substr('a',1,1)", "max('a')", "min('a')", "(select 'a')", "$", "null||null"}) {
            right("select (" + item + ")||'x'");
            error(4, "select (" + item + ")^+1");
        }
        // The condition behind each when, as soon as it is checked.
        error(4, "select case ^when 'x' then 1 end");
        error(4, "select case when 1 then 'x' ^when 'x' then nope end");
        error(3, "select case when 1 then ^nope when 'x' then 1 end");
        right("select case when null then 1 end");
    }

    /** A condition that is a text is error 4 at its on, where or having. */
    private static void conditionsOfTexts() {
        error(4, "select 1 from t ^where b");
        error(4, "select 1 from t join u ^on d");
        error(4, "select 1 from t left join u ^on b");
        error(4, "select 1 ^having 'x'");
        error(4, "update t set a=1 ^where b");
        error(4, "delete from t ^where b");
        error(4, "create table x (a text,^check(a))");
        right("select 1 from t join u on null where null having null");
        right("create table x (a text,check(null))");
    }

    /** A query in an expression: error 5 at its first select, if it stands in a check; error 6 there, if it has not just one column. */
    private static void queriesInChecks() {
        error(5, "create table x (a int,check((^select 1,2)=a))");
        error(5, "create table x (a int,check(exists (^select nope from nope)))");
        error(5, "create table x (a int,check(a in (^select 'x')))");
        error(6, "select (^select 1,2)");
        error(6, "select (^select * from t)");
        error(6, "select 1 in (^select 1,2)");
        right("select exists (select 1,2,3,4,5,6,7,8)");
        right("select (select * from (select 1 as a) x)");
        // What is in the query comes ahead of how many columns it has, and this ahead of what fits.
        error(3, "select (select 1,^nope)");
        error(6, "select 1 in (^select 'x','y')");
        error(4, "select 1 ^in (select 'x')");
        error(6, "select (^select 1,2 union select 3,4)");
    }

    /** ? and $ : error 5 in a create. */
    private static void parametersInCreates() {
        error(5, "create table x (a int,check(a=^?))");
        error(5, "create table x (a text,check(a=^$))");
        error(5, "create view x as select ^$ as a");
        error(5, "create view x as select 1 as a limit ^?");
        error(5, "create view x as select 1 as a limit 1 offset ^?");
        error(5, "create view x as select 1 as a from (select 1 as b limit ^?) y");
        error(3, "create view x as select 1 as a order by ^9 limit ?");
        right("select 1 limit ? offset ?");
        right("create view x as select 1 as a limit 1 offset 1");
    }

    /** An aggregate may stand in an item or behind having of its core, not in another one of it; otherwise error 5 at its keyword. */
    private static void aggregatesWhereTheyMayNot() {
        error(5, "select 1 from t where ^count(*)");
        error(5, "select 1 from t where ^sum(nope)");
        error(5, "select 1 from t join u on ^min(nope)");
        error(5, "select max(^max(nope))");
        error(5, "select count(1+^count(*))");
        error(5, "select 1 having sum(^sum(1))>0");
        right("select max((select max(1)))");
        error(5, "select max((select max(^max(1))))");
        error(5, "select (select 1 where ^max(nope)) from t");
        error(5, "insert into u values (^count(*),'x')");
        right("insert into u values ((select count(*)),'x')");
        error(5, "update u set a=^count(*)");
        error(5, "delete from u where ^count(*)");
        right("delete from u where (select count(*))");
        error(5, "create table x (a int,check(^count(*)))");
        right("select count(*) from t having max(a)>1 order by 1");
        // Behind a query in an expression, or a source, it is the core around it again.
        right("select (select 1),count(*),max(a) from t");
        right("select exists (select count(*) from u),max(a) from t having (select 1)=min(a)");
        error(5, "select (select 1 from u),^a,count(*) from t");
        error(5, "select 1 from t where exists (select count(*) from u) and ^max(a)=1");
        right("select max(x.a) from (select 1 as a) x having 1 in (select 2) and count(*)>0");
        error(5, "update t set a=(select max(a) from u)+^max(a)");
    }

    /** A core is grouped, if it has a group by or a having, or if an aggregate belongs to it. */
    private static void groupedCores() {
        right("select c from t");
        error(5, "select ^c from t having 1");
        error(5, "select ^c from t group by a");
        error(5, "select ^c,count(*) from t");
        error(5, "select ^c from t having count(*)");
        right("select 1 from t having 1");
        // An aggregate of a query in it, or of a core further out, does not group it.
        right("select c,(select count(*) from u) from t");
        right("select c from t where 1=(select count(*) from u)");
        // Nor does one of another core of the query.
        right("select c from t union select count(*) from u");
    }

    /** A ref in an item or behind having of a grouped core must mean a column that is told behind its group by. */
    private static void refsOfGroups() {
        right("select c,c+1,(select c) from t group by c having c>1");
        right("select t.c from t group by c");
        right("select c from t group by t.c");
        right("select p.c from t p,t q group by p.c,q.a");
        error(5, "select ^q.c from t p,t q group by p.c,q.a");
        error(5, "select c from t group by c having ^a");
        error(5, "select (select ^t.a from u) from t group by c");
        error(5, "select (select 1 from u where u.a=^t.a) from t group by c");
        error(5, "select (select max(^t.a) from u) from t group by c");
        right("select max(a),max(a+c),max((select t.a from u)) from t group by c");
        right("select (select a from u) from t group by c");
        right("select (select max(a) from u) from t group by c");
        // In where and on all columns may stand, and what is further out is not of this core.
        right("select c from t join u on t.a=u.a where b='x' group by c");
        right("select (select max(u.a)+t.a from u) from t");
        // A name that is nothing is error 3.
        error(3, "select c from t group by c,^nope");
        error(3, "select c from t group by ^u.c");
        error(3, "select c from t group by t.^nope");
        error(3, "select 1 from t p,t q group by ^a");
        error(3, "select (select 1 from u group by ^t.a) from t");
    }

    /** Error 6 at a source, if the check of 12 others of the statement was begun ahead of it. */
    private static void twelveSources() {
        String four = "(select 1 as a from t p,t q,t r,t s)";
        right("select 1 from " + four + " k," + four + " l,t m,t n");
        error(6, "select 1 from " + four + " k," + four + " l,t m where exists (select 1 from t p,^t q)");
        right("select 1 from " + four + " k," + four + " l,t m where exists (select 1 from t p)");
        error(6, "select 1 from t k,t l," + four + " m," + four + " n where exists (select 1 from ^nope)");
        error(6, "select 1 from " + four + " k," + four + " l," + "(select 1 as a from t p,^t q) m");
        // A query that is a source counts, too, ahead of what is in it.
        error(6, "select 1 from " + four + " k," + four + " l,t m,t n union select 1 from ^(select nope) x");
        // The table of an update or delete, or that of an insert, is none.
        right("update t set a=1 where exists (select 1 from " + four + " k," + four + " l,t m,t n)");
        error(6, "update t set a=(select 1 from " + four + " k," + four + " l,t m,t n) where exists (select 1 from ^t p)");
        right("insert into u (d) select 'x' from " + four + " k," + four + " l,t m,t n");
        right("delete from t where exists (select 1 from " + four + " k," + four + " l,t m,t n)");
        right("insert into u (d) values ('x'),((select 'x' from " + four + " k," + four + " l,t m,t n))");
        error(6, "insert into u (d) values ((select 'x' from " + four + " k," + four + " l,t m,t n)),((select 'x' from ^u))");
    }

    /** Those inside of views counted too; of a NAME error 3, if there is any error in the query of the view (also an error 6). */
    private static void sourcesOfViews() {
        fresh();
        db.ok("create view f as select p.a from t p,t q,t r,t s");
        right("select 1 from f p,f q union select 1 from t x,t y");
        error(6, "select 1 from f p,f q union select 1 from t x,t y,^t z");
        right("select 1 from f p,t x,t y union select 1 from f q");
        error(3, "select 1 from f p,t x,t y,t z union select 1 from ^f q");
        right("select 1 from f p,f q union select 1 from v y");
        error(3, "select 1 from f p,f q union select 1 from t x,^v y");
        error(3, "select 1 from ^i");
        error(3, "select 1 from ^nope");
        // A view whose columns have no name, or one name twice, cannot be made; one that tells of what is gone is an error.
        error(3, "create view ^x as select 1");
        error(3, "create view ^x as select 1 as a,2 as a");
        error(3, "create view ^x as select *,1 as a from t");
        db.ok("create view x as select * from t").ok("drop table t");
        error(3, "select 1 from ^x");
        db.ok("create table t (a int,b int,c int,d int,e int,f int)");
        right("select 1 from x");
        right("select f from x");
        db.ok("create view y as select *,1 as g,2 as h from x").ok("drop table t");
        error(3, "select 1 from ^y");
        db.ok("create table t (a int,b text,h int)");
        // Now two of its columns are called h.
        error(3, "select 1 from ^y");
        right("select h from x");
        db.ok("drop table t").ok("create table t (a int)");
        right("select a,g,h from y");
        fresh();
    }

    /** Error 3 at its name, if a source ahead in this core is called so; error 3 at the "(", if a column has no name, or two have it. */
    private static void calledTheSame() {
        error(3, "select 1 from t,^t");
        error(3, "select 1 from t,u ^t");
        error(3, "select 1 from t p,u ^p");
        error(3, "select 1 from t p,(select 1 as a) ^p");
        error(3, "select 1 from v,t ^v");
        right("select 1 from t,t p");
        right("select 1 from t u,u t");
        right("select 1 from t where exists (select 1 from t)");
        right("select 1 from t union select 1 from t");
        error(3, "select 1 from ^(select 1) p");
        error(3, "select 1 from ^(select 1 as a,2 as a) p");
        error(3, "select 1 from t p,^(select a,c as a from t) p");
        right("select 1 from (select a,c as d from t) p");
        // The names of the first core count.
        right("select 1 from (select 1 as a union select 2) p");
        error(3, "select 1 from ^(select 1 union select 2 as a) p");
        error(3, "select 1 from t join ^nope on nope");
        error(3, "select 1 from t join u ^t on nope");
    }

    /** Error 6 at the first token of an item, as soon as it is checked, if there are more than 8 columns with it. */
    private static void eightColumns() {
        right("select *,1,2 from t,t p");
        error(6, "select *,1,2,^3 from t,t p");
        error(6, "select *,1,2,^(((3))) from t,t p");
        error(6, "select *,1,2,^-3 as x from t,t p");
        error(3, "select *,1,2,^nope from t,t p");
        error(4, "select *,1,2,3^+'x' from t,t p");
        right("select 1,2,* from t,t p");
        error(6, "select 1,2,3,^* from t,t p");
        error(6, "select ^* from t,t p,t q");
        right("select * from u,t,t p");
        error(6, "select ^* from u,t,t p,(select 1 as k) q");
        error(6, "select 1,2,3,^*,4,5,6,nope from t,t p");
        right("select *,* from u,u p");
        error(6, "select *,*,^1 from u,u p");
    }

    /** "*" : error 5 at it without from, or in a grouped core. */
    private static void stars() {
        error(5, "select ^*");
        error(5, "select 1,^*");
        error(5, "select ^* from t group by a,b,c");
        error(5, "select ^* from t having 1");
        error(5, "select ^*,count(*) from t");
        error(5, "select count(*),^* from t");
        right("select * from t");
        right("select exists (select * from t) from u group by a");
        error(5, "select exists (select ^*) from t");
    }

    /** The name of an item is that behind as; without as that of the column, if it is a ref and nothing else. */
    private static void namesOfItems() {
        right("select a from t order by a");
        right("select ((a)) from t order by a");
        right("select t.a from t order by a");
        right("select a as z from t order by z");
        right("select a+1 as z from t order by z");
        error(3, "select a as z from t order by ^a");
        error(3, "select a+1 from t order by ^a");
        error(3, "select -a from t order by ^a");
        error(3, "select (select a) from t order by ^a");
        error(3, "select max(a) from t order by ^a");
        error(3, "select t.a from t order by ^t");
        right("select * from t order by b");
        error(3, "select *,a from t order by ^a");
        right("select *,c as z from t order by z,a");
    }

    /** A query counts 1, if it stands in no other one; one in another one 1 more; error 6 at its first select, if it counts more than 4. */
    private static void fourLevels() {
        fresh();
        right("select (select (select (select 1)))");
        error(6, "select (select (select (select (^select nope))))");
        right("select 1 from (select 1 as a from (select 1 as a from (select 1 as a) x) x) x");
        error(6, "select 1 from (select 1 as a from (select 1 as a from (select 1 as a from (^select nope) x) x) x) x");
        error(6, "select 1 where exists (select 1 from (select 1 in (select (^select nope)) as a) x)");
        right("select 1 where exists (select 1 from (select 1 in (select 2) as a) x)");
        right("insert into u (a) values ((select (select (select (select 1)))))");
        error(6, "insert into u (a) values ((select (select (select (select (^select nope))))))");
        right("insert into u (a) select (select (select (select 1)))");
        error(6, "insert into u (a) select (select (select (select (^select nope))))");
        right("update u set a=(select (select (select (select 1))))");
        error(6, "update u set a=(select (select (select (select (^select nope)))))");
        error(6, "create view x as select (select (select (select (^select nope)))) as a");
        // Cores joined to the first one count as it does.
        right("select 1 union select (select (select (select 1)))");
        error(6, "select 1 union select (select (select (select (^select 1))))");
        // The query of a view counts 1 more than that of which it is a source.
        db.ok("create view p as select a from t").ok("create view q as select a from p").ok("create view r as select a from q");
        right("select 1 from r");
        error(3, "select (select 1 from ^r)");
        right("select (select 1 from q)");
        error(3, "select (select 1 where exists (select 1 from ^q))");
        right("select (select 1 where exists (select 1 from p))");
        error(3, "select (select 1 where exists (select 1 from t where a in (select a from ^p)))");
        db.ok("create view s as select a from r");
        error(3, "select 1 from ^s");
        error(3, "create view z as select a from ^s");
        fresh();
    }

    /** Behind each core but the first one: error 6 at its select, if it has not as many columns; error 4 there, if a type does not fit. */
    private static void joinedCores() {
        error(6, "select 1 union ^select 1,2");
        error(6, "select 1,2 union ^select 1");
        error(6, "select 1 union select 2 except ^select * from t");
        error(4, "select 1 union all ^select 'x'");
        error(4, "select 1,'x' intersect ^select 1,2");
        error(4, "select null union select null union select 1 union ^select 'x'");
        right("select null union select 1 union select null union select 2");
        right("select null,1 union select 'x',null");
        error(4, "select 1 from (select null as a union select 'x') p where a^+1");
        right("select a||'y' from (select null as a union select 'x') p");
        error(6, "select (^select 1,2 union select 1,2)");
    }

    /** error 3 at a NAME that is not the name of just one column; error 3 at a number that is not 1 to the number of columns. */
    private static void keys() {
        error(3, "select 1 order by ^0");
        right("select 1 order by 1");
        error(3, "select 1 order by ^2");
        right("select 1,2,3,4,5,6,7,8 order by 8");
        error(3, "select 1,2,3,4,5,6,7,8 order by ^9");
        error(3, "select 1 order by 1,^999999999999999999");
        error(3, "select 1 order by ^4294967297");
        right("select * from t order by 3");
        error(3, "select * from t order by ^4");
        error(3, "select 1 as a,2 as a order by ^a");
        right("select 1 as a,2 as b order by b,a,2,1 desc");
        right("select 1 as a union select 2 as b order by a");
        error(3, "select 1 as a union select 2 as b order by ^b");
        error(3, "select 1 order by ^a");
    }

    /** create table: the columns in order, then the rules in order. */
    private static void tablesThatAreMade() {
        error(3, "create table ^t (a int)");
        error(3, "create table ^v (a int)");
        error(3, "create table ^i (a int)");
        right("create table a (a int)");
        error(3, "create table x (a int,^a int)");
        error(3, "create table x (a int,b int,c int,^a int)");
        error(4, "create table x (a int ^default 'x',a int)");
        error(4, "create table x (a text ^default 1)");
        error(4, "create table x (a text ^default -1)");
        right("create table x (a int default -1,b text default 'x',c int default null,d text default null)");
        error(3, "create table x (a int,unique(^b))");
        error(3, "create table x (a int,unique(a,^a))");
        error(3, "create table x (a int,b int,unique(a,b,^a))");
        right("create table x (a int,b int,unique(a,b),unique(b,a),unique(a))");
        error(4, "create table x (a int,^check('x'),unique(b))");
        error(3, "create table x (a int,unique(^b),check('x'))");
        error(3, "create table x (a int,check(^b))");
        error(3, "create table x (a int,check(^y.a))");
        right("create table x (a int,check(x.a))");
    }

    /** The references in the order of columns, each of them in the order that is told. */
    private static void referencesThatAreMade() {
        error(3, "create table x (a int references ^nope(a),b int references nope(b))");
        error(3, "create table x (a int references ^v(a))");
        error(3, "create table x (a int references ^i(a))");
        error(3, "create table x (a int references t(^nope))");
        error(3, "create table x (a int references x(^nope))");
        error(5, "create table x (a int references t(^c))");
        error(5, "create table x (a int references t(^b))");
        error(5, "create table x (a text references x(^b),b int)");
        error(4, "create table x (a text references t(^a))");
        right("create table x (a int references t(a))");
        right("create table x (a int references x(b),b int unique)");
        right("create table x (a int unique references x(a))");
        error(5, "create table x (a int references x(^b),b int,unique(b,a))");
        right("create table x (a int references x(b),b int,unique(b))");
        error(4, "create table x (a text references x(^b),b int,unique(b))");
        // An index that was created is not in the text of the table.
        db.ok("create unique index j on u(a)");
        error(5, "create table x (a int references u(^a))");
        db.ok("drop index j");
        error(3, "create table x (a int references ^nope(a),unique(a))");
        error(3, "create table x (a int references nope(a),unique(^b))");
        error(5, "create table x (a int references t(^c),b text references t(a))");
    }

    /** Error 6 at NAME, if there are 10 tables, views and indices altogether. */
    private static void tenDefinitions() {
        db = new Db();
        db.ok("create table t (a int)");
        for (int i = 0; i < 8; i++) db.ok(i % 2 == 0 ? "create index i" + i + " on t(a)" : "create view i" + i + " as select 1 as a").store.checkpoint();
        right("create table x (a int)");
        right("create index x on t(a)");
        right("create view x as select 1 as a");
        db.ok("create table x (a int)");
        error(6, "create table ^y (a int,a int)");
        error(6, "create index ^y on nope(a)");
        error(6, "create view ^y as select nope");
        error(3, "create table ^x (a int)");
        error(3, "create index ^i0 on t(a)");
        error(3, "create view ^t as select 1 as a");
        // A statement that was prepared with nine is an error with ten.
        db.ok("drop table x");
        db.prepare(5, "create table y (a int)");
        db.ok("create table x (a int)");
        Db.due("ten", 12, db.store.run(5));
        db.ok("drop view i1");
        Db.due("nine", 0, db.store.run(5));
        db.code(0, "drop table y");
        fresh();
    }

    /** drop: error 3 at NAME, if there is no table, index or view (as is said ahead of it) of this name. */
    private static void drops() {
        String[] kinds = {"table", "index", "view"};
        String[] names = {"t", "i", "v"};
        for (int kind = 0; kind < 3; kind++) {
            for (int name = 0; name < 3; name++) {
                if (kind == name) right("drop " + kinds[kind] + " " + names[name]);
                else error(3, "drop " + kinds[kind] + " ^" + names[name]);
            }
            error(3, "drop " + kinds[kind] + " ^nope");
        }
    }

    /** insert: the table, the names behind it, each row, each expression; or the query. */
    private static void inserts() {
        error(3, "insert into ^nope (nope) values (nope)");
        error(3, "insert into ^v values (1,'x',1)");
        error(3, "insert into ^i values (1)");
        error(3, "insert into t (^nope) values (1,2)");
        error(3, "insert into t (a,^a) values (1)");
        error(3, "insert into t (a,b,c,^a) values (1)");
        error(6, "insert into t values ^(1,'x')");
        error(6, "insert into t values ^(1,'x',1,nope)");
        error(6, "insert into t (b) values ('x'),^('x','x')");
        right("insert into t (b) values ('x'),('y')");
        error(4, "insert into t (b,a) values ('x',^'y')");
        error(4, "insert into t (b,a) values (^(((1))),2)");
        error(4, "insert into t (b,a) values (^1+1,2)");
        error(4, "insert into t (b,a) values (^-1,2)");
        error(3, "insert into t (b,a) values (^nope,'x')");
        error(4, "insert into t (a) values (1),(^'x'),(nope)");
        error(6, "insert into t ^select 1,'x'");
        error(6, "insert into t ^select 1,'x',2,3");
        error(6, "insert into t (a) ^select * from u");
        error(3, "insert into t (a) select 1,^nope");
        error(4, "insert into t (a,b) ^select 1,2");
        right("insert into t (a,b) select null,null union select 1,'x'");
        error(4, "insert into t (a,b) ^select null,null union select 'x','x'");
    }

    /** update: each setting, then where; delete: where. */
    private static void updatesAndDeletes() {
        error(3, "update ^nope set nope=nope");
        error(3, "update ^v set a=1");
        error(3, "update t set ^d=1");
        error(3, "update t set a=1,^a=nope");
        error(3, "update t set a=1,b='x',^a=1");
        error(4, "update t set ^a='x'");
        error(4, "update t set a=1,^b=1 where nope");
        error(3, "update t set a=^nope,d=1");
        error(4, "update t set a=1^+'x',b=1");
        error(3, "update t set a=1 where ^nope");
        error(4, "update t set a=1 ^where 'x'");
        right("update t set a=null,b=null,c=c where null");
        error(3, "delete from ^nope where nope");
        error(3, "delete from ^i");
        error(3, "delete from t where ^u.a");
        error(4, "delete from t ^where 'x'");
        right("delete from t where null");
        right("delete from t where t.a=a");
    }
}
