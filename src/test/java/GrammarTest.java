/** Promises 4 and 5: errors 1 and 2. A ^ in a text marks the place of its error, and is left out. */
public final class GrammarTest {
    private static final Db DB = new Db();

    public static void main(String[] args) {
        tokens();
        statements();
        queries();
        expressions();
        bounds();
        brackets();
        heights();
        Db.end();
    }

    private static void wrong(String marked) {
        error(1, marked);
    }

    private static void error(int error, String marked) {
        int place = marked.indexOf('^');
        DB.error(error, place, marked.substring(0, place) + marked.substring(place + 1));
    }

    /** It is a statement within the bounds. */
    private static void right(String text) {
        int error = DB.prepare(1, text);
        Db.due(text, true, error != 1 && error != 2);
    }

    private static String times(String s, int n) {
        return s.repeat(n);
    }

    private static void tokens() {
        wrong("^");
        wrong("   ^");
        wrong("select^");
        wrong("select  ^");
        right("\nselect\n1\n");
        right("select 1from(select 2 as b)t");
        wrong("select 12^ab");
        wrong("select ^A");
        wrong("select ^_a");
        right("select abcdefghij from (select 1 as abcdefghij) t");
        wrong("select ^abcdefghijk");
        DB.error(0, -1, "select z_09,azm from (select 1 as z_09,2 as azm) t");
        DB.error(3, 7, "select z_08 from (select 1 as z_09) t");
        DB.error(3, 7, "select a from (select 1 as a_) t");
        right("select 999999999999999999");
        wrong("select ^1000000000000000000");
        wrong("select 1^|2");
        wrong("select 1 ^|");
        right("select 'a'||'b'");
        right("select 'a'''");
        right("select ' ~ !'");
        wrong("select ^'abc");
        wrong("select ^'abc''");
        wrong("select ^'a\nb'");
        wrong("select ^'a\u007fb'");
        right("select '" + times("a", 24) + "'");
        wrong("select ^'" + times("a", 25) + "'");
        right("select '" + times("''", 24) + "'");
        wrong("select ^'" + times("''", 25) + "'");
        wrong("select ^;");
        wrong("select ^\t1");
        wrong("select ^!");
        wrong("select ^\u0000");
        wrong("select ^\u00e9");
        wrong("select 1 <> ^<");
        wrong("select 1 < ^> 2");
        wrong("select 1 = ^< 2");
        right("select 1<>2,1<=2,1>=2,1<2,1>2,1=2");
        // A wrong token counts only if no error comes ahead of it.
        wrong("select 1 ^2 A");
        wrong("select 1,^A");
        wrong("^A");
        right("select " + times(" ", 791) + "1");
        wrong("select 1 " + times(" ", 790) + "^)");
    }

    private static void statements() {
        wrong("^selec 1");
        wrong("^table t");
        wrong("create ^t");
        wrong("create unique ^table t (a int)");
        wrong("create table ^select (a int)");
        wrong("create table t ^a int");
        wrong("create table t (a^)");
        wrong("create table t (a int unique ^not null)");
        wrong("create table t (a int not ^unique)");
        wrong("create table t (a int,unique(a),^b int)");
        wrong("create table t (^unique(a))");
        wrong("create table t (a int,check ^1)");
        wrong("create table t (a int,unique(^))");
        wrong("create table t (a int)^,");
        right("create table t (a int not null unique default -1 references t(a) on delete set null)");
        wrong("create table t (a int default -^'a')");
        wrong("create table t (a int default ^a)");
        wrong("create table t (a int default ^)");
        wrong("create table t (a int references t^)");
        wrong("create table t (a int references t(a^,b))");
        wrong("create table t (a int references t(a) on delete ^x)");
        wrong("create table t (a int references t(a) on delete set ^1)");
        wrong("create index i ^(a)");
        wrong("create index i on t(^1)");
        wrong("create view v ^select 1");
        wrong("create view v as ^insert");
        wrong("drop ^t");
        wrong("drop table ^");
        wrong("insert or ^into t values (1)");
        wrong("insert ^t");
        wrong("insert into t ^or values (1)");
        right("insert or ignore into t (a,b) select 1,2");
        wrong("insert into t (^select 1)");
        wrong("insert into t (a)^");
        wrong("insert into t values ^1");
        wrong("insert into t values (^)");
        wrong("insert into t values (1)^(2)");
        wrong("insert into t values (1) ^select");
        wrong("update t set a ^where 1");
        wrong("update t ^a=1");
        wrong("update t set a=1 ^from");
        wrong("delete ^t");
        wrong("delete from t ^1");
        wrong("rollback ^q");
        wrong("rollback to^");
        wrong("begin ^x");
        wrong("commit^;");
        wrong("savepoint^");
        wrong("release ^to");
    }

    private static void queries() {
        wrong("select ^from t");
        wrong("select * ^as a from t");
        wrong("select 1 as ^1");
        wrong("select 1 ^a");
        wrong("select 1 from t left ^x");
        wrong("select 1 from t join u ^where 1");
        wrong("select 1 from t ^on 1");
        wrong("select 1 from t a ^b");
        wrong("select 1 from ^1");
        wrong("select 1 from (^t)");
        wrong("select 1 from (select 1)^");
        wrong("select 1 from t where^");
        wrong("select 1 from t group ^a");
        wrong("select 1 from t group by ^1");
        wrong("select 1 from t group by a.^1");
        wrong("select 1 having 1 ^group");
        wrong("select 1 order ^1");
        wrong("select 1 order by 1^+1");
        wrong("select 1 order by 1 desc ^asc");
        wrong("select 1 order by ^-1");
        wrong("select 1 limit 1 ^desc");
        wrong("select 1 limit ^$");
        wrong("select 1 limit ^-1");
        wrong("select 1 ^offset 1");
        wrong("select 1 union ^1");
        wrong("select 1 except ^all select 1");
        wrong("select 1 order by 1 ^union select 1");
        wrong("select distinct ^distinct 1");
    }

    private static void expressions() {
        wrong("select 1 = 1 ^= 1");
        wrong("select 1 is null ^is null");
        wrong("select - ^-1");
        wrong("select not ^not 1");
        wrong("select 1 not ^2");
        wrong("select 1 not ^null");
        wrong("select 1 is not ^2");
        wrong("select 1 is ^2");
        wrong("select 1 between 1 ^or 2");
        wrong("select 1 between 1 and^");
        wrong("select 1 between 1 ^= 2 and 3");
        wrong("select 1 in ^2");
        wrong("select 1 in (^)");
        wrong("select 1 in (select 1,(2)^");
        wrong("select count^");
        wrong("select count ^*");
        wrong("select count(distinct ^*)");
        wrong("select count(^)");
        wrong("select sum(^*)");
        wrong("select abs(^distinct 1)");
        wrong("select abs(1^,2)");
        wrong("select substr(1,2^)");
        wrong("select substr(1,2,3^,4)");
        wrong("select coalesce(^)");
        right("select coalesce(1)");
        wrong("select case ^1");
        wrong("select case when 1 ^end");
        wrong("select case when 1 then 2^");
        wrong("select case when 1 then 2 else 3 ^when");
        wrong("select case ^else 3 end");
        wrong("select exists ^1");
        wrong("select exists (^1)");
        wrong("select (1^");
        wrong("select (1^,2)");
        wrong("select t.^");
        wrong("select t.^*");
        wrong("select (select 1^");
        wrong("select 1 + ^");
        wrong("select 1 ^(2)");
        wrong("select ^+1");
        right("select not -1 is not null and not 1 not in (2,3) or 1 like 'a' and 2 not between 3 and 4");
        right("select -count(*) || t.a * (1) % -?");
    }

    private static void bounds() {
        right("create table t (a int,b int,c int,d int,e int,f int,check(1),check(1),check(1),check(1))");
        wrong("create table t (a int,b int,c int,d int,e int,f int,^g int)");
        wrong("create table t (a int,b int,c int,d int,e int,f int,^");
        wrong("create table t (a int,check(1),check(1),unique(a),check(1),^check(1))");
        wrong("create table t (a int,check(1),check(1),unique(a),check(1),^unique(a))");
        right("create index i on t (a,b,c)");
        wrong("create index i on t (a,b,c,^d)");
        wrong("create table t (a int,unique(a,a,a,^a))");
        right("insert into t (a,a,a,a,a,a,a,a,a) values (1)");
        right("insert into t values " + times("(1),", 7) + "(1)");
        wrong("insert into t values " + times("(1),", 8) + "^(1)");
        wrong("insert into t values " + times("(1),", 8) + "^");
        right("update t set " + times("a=1,", 5) + "a=1");
        wrong("update t set " + times("a=1,", 6) + "^a=1");
        right("select 1 union select 1 except select 1 intersect select 1");
        wrong("select 1 union select 1 except select 1 intersect select 1 union all ^select 1");
        wrong("select 1 union select 1 except select 1 intersect select 1 union   ^");
        wrong("select 1 union select 1 except select 1 intersect select 1 except ^select 1");
        right("select 1 from (select 1 union select 1 union select 1 union select 1) t union select 1");
        right("select 1,2,3,4,5,6,7,8");
        wrong("select 1,2,3,4,5,6,7,8,^9");
        wrong("select 1,2,3,4,5,6,7,8,^*");
        // What is one too many is told where it would begin, also if something else stands there.
        wrong("select 1,2,3,4,5,6,7,8,^from");
        right("select 1 from a,b,c,d");
        wrong("select 1 from a,b,c,d,^e");
        wrong("select 1 from a,b,c,d left join ^e on 1");
        wrong("select 1 from a,b,c,d join ^e on 1");
        wrong("select 1 from a,b,c,d left ^e");
        right("select 1 from t group by a,b,c,d");
        wrong("select 1 from t group by a,b,c,d,^e");
        right("select 1 order by 1,1,1,1");
        wrong("select 1 order by 1,1,1,1,^1");
        right("select ?+?+?+?+?+?+?+?+?+?+?+$");
        wrong("select ?+?+?+?+?+?+?+?+?+?+?+$+^?");
        wrong("select ?+?+?+?+?+?+?+?+?+?+?+? limit ^?");
        wrong("select ?+?+?+?+?+?+?+?+?+?+?+?||^$");
    }

    private static void brackets() {
        right("select " + times("(", 8) + "1" + times(")", 8));
        wrong("select " + times("(", 8) + "^(1" + times(")", 9));
        right("select " + times("case when 1 then ", 8) + "1" + times(" end", 8));
        wrong("select " + times("case when 1 then ", 8) + "^case when 1 then 1" + times(" end", 9));
        wrong("select " + times("(", 8) + "count^(*)" + times(")", 8));
        wrong("select " + times("(", 8) + "exists ^(select 1)" + times(")", 8));
        wrong("select " + times("(", 8) + "1 in ^(1)" + times(")", 8));
        wrong("select " + times("(", 7) + "case when 1 then ^(1) end" + times(")", 7));
        right("select " + times("(1)+", 12) + "1");
        right("select " + times("(", 7) + "case when 1 then 1 end+(1)" + times(")", 7));
        wrong("insert into t values " + times("(", 8) + "^(1" + times(")", 9));
        wrong("create table t (a int,check" + times("(", 7) + "^(1" + times(")", 9));
    }

    private static void heights() {
        right("select " + times("1+", 15) + "1");
        error(2, "select " + times("1+", 15) + "1^+1");
        error(2, "select " + times("1+", 15) + "1^+1+1+1+1+1");
        right("select 1 where " + times("1 and ", 15) + "1");
        error(2, "select 1 where " + times("1 and ", 15) + "1 ^and 1");
        // A not ahead of in is one thing with it; its height is told at the word in.
        error(2, "select " + times("1+", 15) + "1 not ^in (1)");
        error(2, "select " + times("1+", 15) + "1 ^is null");
        error(2, "select " + times("1+", 15) + "1 not ^between 1 and 2");
        error(2, "select " + times("1+", 15) + "1 ^like 1");
        error(2, "select " + times("1+", 15) + "1 ^= 1");
        error(2, "select 1 ^in (1," + times("1+", 15) + "1)");
        error(2, "select " + times("1+", 15) + "1 ^in (select 1)");
        error(2, "select ^abs(" + times("1+", 15) + "1)");
        error(2, "select ^coalesce(1," + times("1+", 15) + "1)");
        error(2, "select ^case when " + times("1+", 15) + "1 then 1 end");
        error(2, "select ^case when 1 then 1 else " + times("1+", 15) + "1 end");
        error(2, "select ^-(" + times("1+", 15) + "1)");
        error(2, "select ^not " + times("1+", 15) + "1");
        error(2, "select ^sum(" + times("1+", 15) + "1)");
        error(2, "select 1^*((" + times("1+", 15) + "1))");
        right("select ((((" + times("1+", 15) + "1))))");
        right("select (select " + times("1+", 15) + "1)+1");
        right("select exists (select " + times("1+", 15) + "1)+1");
        right("select 1 in (select " + times("1+", 15) + "1)");
        error(2, "create table t (a int,check(" + times("a+", 15) + "a^+a))");
        // Of several the first place counts; error 1 comes ahead of error 2.
        error(2, "select " + times("1+", 15) + "1^+1," + times("1*", 17) + "1");
        error(2, "select 1^*(" + times("1+", 15) + "1+1)");
        wrong("select " + times("1+", 17) + "1 ^2");
        // Error 2 comes ahead of what is checked.
        error(2, "select nope," + times("1+", 15) + "1^+1 from nope");
    }
}
