/** Promises 12 to 23: the edges that the document names of expressions, of running a query, and of choosing an index. */
public final class QueryEdgesTest {
    private static final long LEAST = Long.MIN_VALUE;
    private static final long GREATEST = Long.MAX_VALUE;
    private static Db db;

    public static void main(String[] args) {
        db = new Db();
        sums();
        products();
        quotients();
        signs();
        joinedTexts();
        comparedNulls();
        between();
        andOr();
        lists();
        queriesInExpressions();
        likes();
        cases();
        parts();
        rowAfterRow();
        joinedCores();
        limits();
        sixtySorted();
        combinations();
        leftJoins();
        eightColumns();
        groups();
        aggregates();
        sumsOnTheWay();
        sixtyRows();
        sixtyOfOthers();
        stepsToTheLast();
        stepsOfIndices();
        stepsOfLists();
        deepest();
        usableParts();
        notUsableParts();
        worths();
        oneOfSeveral();
        foundEntries();
        boundsThatAreNull();
        threeColumns();
        firstDefinition();
        askedOfSlots();
        Db.end();
    }

    private static void is(String want, String items) {
        db.query(want, "select " + items);
    }

    /** Runs a text with ints, or nulls, for its parameters. */
    private static void bound(String want, String text, Long... values) {
        Db.due(text, 0, db.prepare(2, text));
        for (int i = 0; i < values.length; i++) {
            if (values[i] == null) db.store.bindNull(2, i);
            else db.store.bindNumber(2, i, values[i]);
        }
        int code = db.store.run(2);
        Db.due(text + java.util.Arrays.toString(values), want, code == 0 ? db.told() : "code " + code);
    }

    // ---- 5. Expressions

    /** + - : what comes out, null if that is outside of 64 bits, or if a part is null. */
    private static void sums() {
        bound("9223372036854775807", "select ?+?", GREATEST, 0L);
        bound("null", "select ?+?", GREATEST, 1L);
        bound("null", "select ?+?", 1L, GREATEST);
        bound("-9223372036854775808", "select ?+?", LEAST, 0L);
        bound("null", "select ?+?", LEAST, -1L);
        bound("null", "select ?+?", GREATEST, GREATEST);
        bound("null", "select ?+?", LEAST, LEAST);
        bound("-1", "select ?+?", LEAST, GREATEST);
        bound("9223372036854775807", "select ?+?", GREATEST - 1, 1L);
        bound("-9223372036854775808", "select ?-?", LEAST + 1, 1L);
        bound("null", "select ?-?", LEAST, 1L);
        bound("null", "select ?-?", GREATEST, -1L);
        bound("null", "select ?-?", 0L, LEAST);
        bound("9223372036854775807", "select ?-?", -1L, LEAST);
        bound("0", "select ?-?", LEAST, LEAST);
        bound("null", "select ?-?", GREATEST, LEAST);
        bound("null", "select ?+?", null, 1L);
        bound("null", "select ?-?", 1L, null);
        bound("null", "select ?+?", null, null);
    }

    /** * : null if it is outside of 64 bits. */
    private static void products() {
        bound("-9223372036854775808", "select ?*?", 1L << 62, -2L);
        bound("null", "select ?*?", 1L << 62, 2L);
        bound("null", "select ?*?", LEAST, -1L);
        bound("null", "select ?*?", -1L, LEAST);
        bound("-9223372036854775808", "select ?*?", LEAST, 1L);
        bound("-9223372036854775808", "select ?*?", 1L, LEAST);
        bound("0", "select ?*?", LEAST, 0L);
        bound("0", "select ?*?", 0L, LEAST);
        bound("-9223372036854775807", "select ?*?", -1L, GREATEST);
        bound("null", "select ?*?", 1L << 32, 1L << 32);
        bound("null", "select ?*?", 3037000500L, 3037000500L);
        bound("9223372030926249001", "select ?*?", 3037000499L, 3037000499L);
        bound("null", "select ?*?", LEAST, LEAST);
        bound("null", "select ?*?", null, 0L);
        bound("null", "select ?*?", 0L, null);
    }

    /** / is cut towards 0, % has the sign of the left part (by -1 it is 0); null by 0, or outside of 64 bits. */
    private static void quotients() {
        is("3 -3 -3 3 0 0 0", "7/2,-7/2,7/-2,-7/-2,1/2,-1/2,1/-2");
        is("1 -1 1 -1 0 0", "7%2,-7%2,7%-2,-7%-2,7%-1,-7%-1");
        is("null null null null", "1/0,0/0,1%0,0%0");
        bound("null", "select ?/?", LEAST, -1L);
        bound("0", "select ?%?", LEAST, -1L);
        bound("9223372036854775807", "select ?/?", LEAST + 1, -1L);
        bound("1", "select ?/?", LEAST, LEAST);
        bound("0", "select ?%?", LEAST, LEAST);
        bound("0", "select ?/?", GREATEST, LEAST);
        bound("-1", "select ?%?", -1L, LEAST);
        bound("null", "select ?/?", LEAST, 0L);
        bound("null", "select ?%?", LEAST, 0L);
        bound("null", "select ?/?", null, 1L);
        bound("null", "select ?/?", 1L, null);
        bound("null", "select ?%?", null, 0L);
        is("1 8 6", "8/4/2,8/(2/2),9-2-1");
    }

    /** A single - and abs: null if that is outside of 64 bits. */
    private static void signs() {
        bound("null", "select -?", LEAST);
        bound("null", "select abs(?)", LEAST);
        bound("9223372036854775807", "select -?", LEAST + 1);
        bound("9223372036854775807", "select abs(?)", LEAST + 1);
        bound("9223372036854775807", "select abs(?)", GREATEST);
        bound("-9223372036854775807", "select -?", GREATEST);
        bound("0 0", "select -?,abs(?)", 0L, 0L);
        bound("null null", "select -?,abs(?)", null, null);
    }

    /** || : null if that has more than 60 bytes, or a part is null. */
    private static void joinedTexts() {
        String text30 = "'aaaaaaaaaaaaaaa'||'bbbbbbbbbbbbbbb'";
        is("60 null", "length(" + text30 + "||" + text30 + "),length(" + text30 + "||" + text30 + "||'c')");
        is("null null null ''", "'a'||null,null||'a',null||null,''||''");
        is("null", text30 + "||" + text30 + "||'c'||''");
    }

    /** = <> < <= > >= : null, if a part is null. is null, is not null: never null. not: null for null. */
    private static void comparedNulls() {
        for (String op : new String[] {"=", "<>", "<", "<=", ">", ">="}) is("null null null", "1" + op + "null,null" + op + "1,null" + op + "null");
        is("0 1 1 0", "1 is null,null is null,1 is not null,null is not null");
        is("null 0 1 0", "not null,not 1,not 0,not 5");
        is("0 1 1 0 1 0", "1<>1,1<=1,1>=1,1<1,2>1,1>2");
        is("0 1 1 0 1 0", "'a'<>'a','a'<='a','a'>='a','a'<'a','b'>'ab','ab'>'b'");
    }

    /** x between a and b is what x >= a and x <= b is; with not ahead it is not of that. */
    private static void between() {
        is("1 1 1 0 0", "1 between 1 and 3,2 between 1 and 3,3 between 1 and 3,0 between 1 and 3,4 between 1 and 3");
        is("0 0 0 1 1", "1 not between 1 and 3,2 not between 1 and 3,3 not between 1 and 3,0 not between 1 and 3,4 not between 1 and 3");
        is("0 1", "2 between 3 and 1,2 not between 3 and 1");
        is("null null null null", "null between 1 and 2,null not between 1 and 2,null between null and null,2 between null and null");
        is("0 null 0 null", "5 between null and 3,2 between null and 3,2 between 3 and null,3 between 3 and null");
        is("1 null 1 null", "5 not between null and 3,2 not between null and 3,2 not between 3 and null,3 not between 3 and null");
        is("1 1 0", "'b' between 'a' and 'c','' between '' and '','b' between 'ba' and 'c'");
    }

    /** and: if the left part is false, 0, without the right one; or: if it is true, 1, without the right one. */
    private static void andOr() {
        String[] values = {"0", "2", "null"};
        String[] ands = {"0", "0", "0", "0", "1", "null", "0", "null", "null"};
        String[] ors = {"0", "1", "null", "1", "1", "1", "null", "1", "null"};
        for (int i = 0; i < 9; i++) {
            is(ands[i], values[i / 3] + " and " + values[i % 3]);
            is(ors[i], values[i / 3] + " or " + values[i % 3]);
        }
        db.ok("create table one (a int)").ok("insert into one values (1)");
        String q = "(select count(*) from one)";
        steps(0, "select 0 and " + q);
        steps(1, "select 1 and " + q);
        steps(1, "select null and " + q);
        steps(0, "select 1 or " + q);
        steps(1, "select 0 or " + q);
        steps(1, "select null or " + q);
        steps(1, "select " + q + " and 0");
        steps(0, "select 0 and 1 and " + q);
        steps(1, "select 0 or 0 or " + q);
    }

    private static void steps(int want, String text) {
        Db.due(text, 0, db.sql(text));
        Db.due("steps of " + text, want, db.store.steps());
    }

    /** x in a list: x, then the list from the left, till one is equal to x. */
    private static void lists() {
        is("1 0 1 0", "1 in (1),1 in (2),1 in (2,1),1 in (2,3)");
        is("0 1 0 1", "1 not in (1),1 not in (2),1 not in (2,1),1 not in (2,3)");
        is("null 1 1 null null", "1 in (null),1 in (null,1),1 in (1,null),null in (1),null in (null)");
        is("null 0 null", "1 not in (null),1 not in (null,1),null not in (1)");
        is("1 0", "'a' in ('b','a'),'a' in ('','ab')");
        String q = "(select count(*) from one)";
        steps(0, "select 5 in (5," + q + ")");
        steps(1, "select 5 in (4," + q + ",5)");
        steps(1, "select 5 in (null," + q + ",5)");
        steps(2, "select null in (" + q + "," + q + ")");
        steps(1, "select 1 in (" + q + "," + q + ")");
        steps(2, "select " + q + " in (" + q + "," + q + ")");
        steps(2, "select 5 between 6 and " + q + "+" + q);
    }

    /** x in a query, "(" query ")" and exists. */
    private static void queriesInExpressions() {
        db.ok("create table n (a int)").ok("insert into n values (3),(null),(4)");
        is("1 1 null", "3 in (select a from n),4 in (select a from n),5 in (select a from n)");
        is("0 0 null", "3 not in (select a from n),4 not in (select a from n),5 not in (select a from n)");
        is("0 1 0 1", "5 in (select a from n where a>2),5 not in (select a from n where a>2),5 in (select a from n where 0),"
            + "5 not in (select a from n where 0)");
        is("null null 0 1", "null in (select a from n where a>2),null not in (select a from n),null in (select a from n where 0),"
            + "null not in (select a from n where 0)");
        is("3 null null 4", "(select a from n),(select a from n where 0),(select a from n order by a),(select a from n order by a desc)");
        is("1 0 1 0", "exists (select a from n),exists (select a from n where 0),exists (select null),exists (select 1 limit 0)");
        is("null 4", "(select a from n limit 1 offset 1),(select a from n limit 1 offset 2)");
        // They are run anew each time, and a ref further out has the value that it has at this time.
        db.query("3 1; null 0; 4 2", "select a,(select count(*) from n q where q.a<=p.a) from n p");
        Db.due("steps", 3 + 9, db.store.steps());
        db.query("3; 4", "select a from n p where exists (select 1 from n q where q.a=p.a)");
        db.query("4", "select a from n p where a in (select max(q.a) from n q where q.a>=p.a) and a in (select a from n)");
    }

    /** like: % stands for any bytes, also none, _ for one byte, each other byte for itself; the whole left part. */
    private static void likes() {
        String[][] right = {{"", ""}, {"", "%"}, {"", "%%"}, {"a", "_"}, {"a", "a%"}, {"a", "%a"}, {"a", "%"}, {"ab", "__"}, {"ab", "_%"}, {"ab", "%_"},
            {"abc", "a%c"}, {"ac", "a%c"}, {"aaab", "%ab"}, {"abab", "%ab"}, {"abcabd", "%ab_"}, {"a%b", "a%b"}, {"a_b", "a_b"}, {"%", "_"},
            {"aXbXc", "%X%X%"}, {" ", " "}, {"a b", "a_b"}, {"aab", "%a%ab"}};
        String[][] wrong = {{"", "_"}, {"", "a"}, {"a", ""}, {"a", "__"}, {"a", "b"}, {"ab", "_"}, {"ab", "a"}, {"ab", "b"}, {"abc", "a%b"}, {"a", "A"},
            {"abc", "%_%_%_%_%"}, {"aab", "a%aab"}, {"a", "%a_"}, {"abd", "ab%c"}, {"axb", "a%%c"}, {"abcdx", "%bcd%cd%"}, {"aab", "%ab%b"}, {"ab", "b%"}, {"ab", "%a"}};
        for (String[] r : right) is("1 0", "'" + r[0] + "' like '" + r[1] + "','" + r[0] + "' not like '" + r[1] + "'");
        for (String[] w : wrong) is("0 1", "'" + w[0] + "' like '" + w[1] + "','" + w[0] + "' not like '" + w[1] + "'");
        is("null null null null", "null like '%','a' like null,null not like null,'a' not like null");
        db.prepare(2, "select $ like $");
        db.tape("a".repeat(60)).store.bindText(2, 0);
        db.tape("a%".repeat(30)).store.bindText(2, 1);
        db.store.run(2);
        Db.due("60 bytes", "1", db.told());
        db.tape("a%".repeat(29) + "%b").store.bindText(2, 1);
        db.store.run(2);
        Db.due("60 bytes without", "0", db.told());
        db.tape("_".repeat(60)).store.bindText(2, 1);
        db.store.run(2);
        Db.due("60 signs", "1", db.told());
    }

    /** case: the conditions till one is true, else that behind else, null without; coalesce: the first part that is not null. */
    private static void cases() {
        is("1 2 3 null", "case when 1 then 1 else 2 end,case when 0 then 1 else 2 end,case when null then 1 when 0 then 2 else 3 end,case when 0 then 1 end");
        is("null 'a'", "case when 1 then null else 2 end,case when 0 then 'b' when 2 then 'a' when 1 then 'c' end");
        is("1 2 null 0", "coalesce(1,2),coalesce(null,2,3),coalesce(null,null,null),coalesce(0,1)");
        String q = "(select count(*) from one)";
        steps(0, "select case when 1 then 2 when " + q + " then 3 else " + q + " end");
        steps(1, "select case when 0 then " + q + " else " + q + " end");
        steps(1, "select case when 0 then 1 when " + q + " then 3 else " + q + " end");
        steps(0, "select coalesce(1," + q + ")");
        steps(1, "select coalesce(null," + q + "," + q + ")");
    }

    /** substr of t, i, n: those bytes whose place p has i <= p and p < i + n (reckoned without a bound of 64 bits). */
    private static void parts() {
        Object[][] due = {{1L, 3L, "'abc'"}, {1L, 2L, "'ab'"}, {1L, 1L, "'a'"}, {1L, 0L, "''"}, {1L, -1L, "''"}, {3L, 1L, "'c'"}, {3L, 9L, "'c'"},
            {4L, 1L, "''"}, {0L, 1L, "''"}, {0L, 2L, "'a'"}, {-1L, 3L, "'a'"}, {-1L, 2L, "''"}, {-5L, 100L, "'abc'"}, {1L, GREATEST, "'abc'"},
            {2L, GREATEST, "'bc'"}, {GREATEST, GREATEST, "''"}, {GREATEST, 1L, "''"}, {LEAST, GREATEST, "''"}, {LEAST, LEAST, "''"}, {LEAST, 1L, "''"},
            {0L, LEAST, "''"}, {-1L, LEAST, "''"}, {3L, LEAST, "''"}, {0L, GREATEST, "'abc'"}, {-1L, GREATEST, "'abc'"}, {null, 1L, "null"}, {1L, null, "null"},
            {LEAST + 3, GREATEST, "'a'"}, {LEAST + 2, GREATEST, "''"}};
        for (Object[] d : due) bound((String) d[2], "select substr('abc',?,?)", (Long) d[0], (Long) d[1]);
        bound("null", "select substr(null,?,?)", 1L, 1L);
        bound("''", "select substr('',?,?)", 1L, 1L);
        is("0 24 null", "length(''),length('aaaaaaaaaaaaaaaaaaaaaaaa'),length(null)");
    }

    /** What an expression is for one row does not matter for the next one: null is null again. */
    private static void rowAfterRow() {
        db = new Db();
        db.ok("create table t (a int,b text)");
        db.prepare(3, "insert into t values (?,$)");
        Long[] ints = {1L, GREATEST, null, LEAST, 2L};
        String[] texts = {"x", "y".repeat(24), null, "", "x"};
        for (int i = 0; i < 5; i++) {
            if (ints[i] == null) db.store.bindNull(3, 0);
            else db.store.bindNumber(3, 0, ints[i]);
            if (texts[i] == null) db.store.bindNull(3, 1);
            else db.tape(texts[i]).store.bindText(3, 1);
            Db.due("code", 0, db.store.run(3));
        }
        String max = "9223372036854775807";
        String min = "-9223372036854775808";
        String[][] due = {{"a+1", "2; null; null; -9223372036854775807; 3"}, {"a-1", "0; 9223372036854775806; null; null; 1"}, {"a*2", "2; null; null; null; 4"},
            {"a/(2-a)", "1; -1; null; null; null"}, {"-a", "-1; -" + max + "; null; null; -2"}, {"abs(a)", "1; " + max + "; null; null; 2"},
            {"a%(a-1)", "null; 1; null; null; 0"}, {"a in (1,null)", "1; null; null; null; null"}, {"a not in (2,null)", "null; null; null; null; 0"},
            {"a between 1 and a", "1; 1; null; 0; 1"}, {"a between null and 1", "null; 0; null; null; 0"}, {"a=1", "1; 0; null; 0; 0"}, {"a is null", "0; 0; 1; 0; 0"},
            {"not a", "0; 0; null; 0; 0"}, {"a>1 and null", "0; null; null; 0; null"}, {"a>1 or null", "null; 1; null; null; 1"},
            {"b||b||b", "'xxx'; null; null; ''; 'xxx'"}, {"length(b)", "1; 24; null; 0; 1"}, {"substr(b,1,1)", "'x'; 'y'; null; ''; 'x'"},
            {"substr(b,1,a-1)", "''; '" + "y".repeat(24) + "'; null; null; 'x'"}, {"b like 'x'", "1; 0; null; 0; 1"}, {"b not like 'x'", "0; 1; null; 1; 0"},
            {"case when a=1 then b when a=2 then 'z' end", "'x'; null; null; null; 'z'"}, {"coalesce(b,null)", "'x'; '" + "y".repeat(24) + "'; null; ''; 'x'"},
            {"coalesce(a+1,a)", "2; " + max + "; null; -9223372036854775807; 3"}, {"(select q.a from t q where q.a=p.a and q.a<3)", "1; null; null; " + min + "; 2"},
            {"(select q.b from t q where q.b=p.b and q.a<3)", "'x'; null; null; ''; 'x'"}, {"a in (select q.a from t q where q.a=p.a)", "1; 1; 0; 1; 1"},
            {"a in (select q.a from t q where q.a is null or q.a=1)", "1; null; null; null; null"}, {"exists (select 1 from t q where q.a=p.a)", "1; 1; 0; 1; 1"},
            {"(select max(q.a) from t q where q.a<p.a)", min + "; 2; null; null; 1"}, {"(select sum(q.a) from t q where q.a<p.a)", min + "; -9223372036854775805; null; null; -9223372036854775807"},
            {"(select count(q.a) from t q where q.a<p.a)", "1; 3; 0; 0; 2"}};
        for (String[] d : due) db.query(d[1], "select " + d[0] + " from t p");
        db.query("1 2; null null; null null; " + min + " -9223372036854775807; 2 3", "select q.a,q.a+1 from t p left join t q on q.a=p.a and q.a<3");
    }

    // ---- 6. Running a query

    /** union all, union, except, intersect, joined from the left. */
    private static void joinedCores() {
        db = new Db();
        db.ok("create table t (a int)").ok("insert into t values (1),(2),(1),(null),(null),(3)");
        db.query("1; 2; 1; null; null; 3; 1", "select a from t union all select 1");
        db.query("1; 2; null; 3", "select a from t union select 1");
        db.query("1; 2; null; 3; 4", "select a from t union select 4");
        db.query("1; null; 3", "select a from t except select 2");
        db.query("1; 2; null; 3", "select a from t except select 9");
        db.query("", "select a from t where 0 except select a from t");
        db.query("1; null", "select a from t intersect select a from t where a=1 or a is null");
        db.query("", "select a from t intersect select 9");
        db.query("", "select a from t where 0 intersect select a from t");
        db.query("9", "select a from t where 0 union select 9");
        db.query("1; 2; null; 3", "select a from t union select a from t where 0");
        // Union leaves out what is the same in the left one, too; union all behind it does not.
        db.query("1; 2; null; 3; 1", "select a from t union select 1 union all select 1");
        db.query("1; 2; 1; null; null; 3", "select 1 except select 1 union all select a from t");
        db.query("2; 3", "select 2 union all select 3 except select 1 intersect select a from t");
        db.query("3; 2", "select 2 union select 3 union select 2 order by 1 desc");
    }

    /** As many as offset tells are left out, and only as many as limit tells stay; null or less than 0 means 0, and no limit. */
    private static void limits() {
        String q = "select a from t where a is not null order by a limit ? offset ?";
        Object[][] due = {{0L, 0L, ""}, {1L, 0L, "1"}, {4L, 0L, "1; 1; 2; 3"}, {5L, 0L, "1; 1; 2; 3"}, {GREATEST, 0L, "1; 1; 2; 3"},
            {null, null, "1; 1; 2; 3"}, {-1L, -1L, "1; 1; 2; 3"}, {LEAST, LEAST, "1; 1; 2; 3"}, {null, 1L, "1; 2; 3"}, {2L, 1L, "1; 2"}, {2L, 3L, "3"},
            {2L, 4L, ""}, {2L, 5L, ""}, {2L, GREATEST, ""}, {-1L, 3L, "3"}, {2L, null, "1; 1"}, {2L, LEAST, "1; 1"}, {1L << 32, 1L, "1; 2; 3"},
            {GREATEST, GREATEST, ""}, {0L, 2L, ""}};
        for (Object[] d : due) bound((String) d[2], q, (Long) d[0], (Long) d[1]);
        db.query("1", "select a from t limit 1");
        db.query("", "select a from t limit 0");
        db.query("3", "select a from t limit 999999999999999999 offset 5");
        db.query("", "select a from t limit 1 offset 999999999999999999");
        // Rows that are the same by all keys stay in their order.
        db.query("1 3; 1 1; 2 2", "select x,y from (select 2 as x,2 as y union all select 1,3 union all select 1,1) p order by x");
        db.query("2 2; 1 3; 1 1", "select x,y from (select 2 as x,2 as y union all select 1,3 union all select 1,1) p order by x desc");
        db.query("1 1; 1 3; 2 2", "select x,y from (select 2 as x,2 as y union all select 1,3 union all select 1,1) p order by x,2");
    }

    /** All sixty rows of a list are sorted, and may stay, or be left out. */
    private static void sixtySorted() {
        db = new Db();
        fill("t", 60);
        StringBuilder down = new StringBuilder("59");
        for (int i = 58; i >= 0; i--) down.append("; ").append(i);
        db.query(down.toString(), "select a from t order by a desc");
        db.query(down.toString(), "select a from t order by a desc limit 60");
        db.query(down.substring(4), "select a from t order by a desc limit 60 offset 1");
        db.query("0", "select a from t order by a desc limit 60 offset 59");
        db.query("", "select a from t limit 60 offset 60");
        db.query("59", "select a from t limit 1 offset 59");
        db.query("59 0 1770 60", "select max(a),min(a),sum(a),count(a) from (select a from t order by a desc) x");
        // The last row of a full list is one as any other.
        db.query("59", "select a from t except select a from t where a<59");
        db.query("59", "select a from t intersect select 59");
        db.query("1 0", "select 59 in (select a from t),60 in (select a from t)");
    }

    /** For each combination of rows of the sources ahead the rows of the next one; without from there is one, of no rows. */
    private static void combinations() {
        db = new Db();
        db.ok("create table t (a int)").ok("create table e (a int)").ok("insert into t values (2),(1)");
        db.query("2 2; 2 1; 1 2; 1 1", "select p.a,q.a from t p,t q");
        db.query("", "select 1 from t,e");
        db.query("", "select 1 from e,t");
        Db.due("no rows ahead", 0, db.store.steps());
        db.query("1", "select 1");
        db.query("0", "select count(*) from e");
        db.query("1", "select count(*)");
        db.query("2 1; 1 1", "select t.a,x from t,(select 1 as x) p");
        db.query("2 2; 1 1", "select p.a,q.a from t p join t q on p.a=q.a");
        db.query("", "select 1 from t p join t q on null");
        db.query("1 9; 2 9", "select distinct a,9 from t order by 1");
        db.query("2 2 2 2", "select p.a,q.a,r.a,s.a from t p,t q,t r,t s limit 1");
        Db.due("all of them", 2 + 4 + 8 + 16, db.store.steps());
    }

    /** If a left join has none for which on is true, one row of nulls is taken instead (no step). */
    private static void leftJoins() {
        db.query("2 null; 1 null", "select t.a,e.a from t left join e on 1");
        Db.due("no step", 2, db.store.steps());
        db.query("2 null; 1 1", "select p.a,q.a from t p left join t q on q.a=p.a and q.a=1");
        Db.due("steps", 2 + 4, db.store.steps());
        db.query("2 null null; 1 null null", "select t.a,x.a,y.a from t left join e x on 1 left join e y on 1");
        db.query("", "select t.a from t left join e on 1 join e y on 1");
        db.query("2 null 2; 2 null 1; 1 null 2; 1 null 1", "select t.a,x.a,y.a from t left join e x on 1,t y");
        db.query("2; 1", "select t.a from t left join e on 1 where e.a is null");
        db.query("", "select t.a from t left join e on 1 where e.a=1");
        db.query("", "select t.a from t left join t q on t.a=q.a where q.a is null");
        db.query("2 0; 1 0", "select t.a,count(e.a) from t left join e on 1 group by t.a");
        db.query("2 null; 1 1", "select t.a,x.b from t left join (select 1 as b union select 5) x on x.b=t.a");
        Db.due("steps with a list", 2 + 4, db.store.steps());
        db.query("2 null", "select t.a,x.b from t left join (select 5 as b) x on x.b=t.a limit 1");
        db.query("null null", "select e.a,x.b from (select 1 as k) y left join e on 1 left join (select 2 as b) x on x.b=e.a");
    }

    /** A source may have eight columns, a query or a view as well. */
    private static void eightColumns() {
        String eight = "select 1 as a,2 as b,3 as c,4 as d,'e' as e,6 as f,7 as g,'h' as h";
        db.query("1 2 3 4 'e' 6 7 'h'", "select * from (" + eight + ") x");
        db.query("'h' 7 1", "select h,x.g,a from (" + eight + ") x");
        db.query("null null", "select x.h,x.a from (select 1 as k) y left join (" + eight + ") x on 0");
        db.ok("create view v as " + eight);
        db.query("'h' 'e'", "select p.h,q.e from v p join v q on p.h=q.h and p.a=q.a");
        db.query("1 2 3 4 'e' 6 7 'h'; 1 2 3 4 'e' 6 7 'h'", "select * from v union all select * from v order by 8,1");
    }

    /** Without group by there is one group, also if there is no combination. */
    private static void groups() {
        db = new Db();
        db.ok("create table t (a int,b int)").ok("insert into t values (2,1),(null,2),(1,3),(null,4),(2,5)");
        db.query("0 null null null 0", "select count(*),sum(a),min(a),max(a),count(a) from t where 0");
        db.query("", "select count(*) from t where 0 group by a");
        db.query("", "select count(*) from t where 0 having count(*)>0");
        db.query("0", "select count(*) from t where 0 having count(*)=0");
        db.query("7", "select 7 from t where 0 having 1");
        db.query("", "select 7 from t having null");
        db.query("2 2 6; null 2 6; 1 1 3", "select a,count(*),sum(b) from t group by a");
        db.query("2 2; null 2", "select a,count(*) from t group by a having count(*)=2");
        db.query("", "select a from t group by a having null");
        db.query("2; 1", "select distinct count(*) from t group by a");
        db.query("2 2", "select a,a from t group by a,a limit 1");
        db.query("1", "select count(*) where 1");
        db.query("7 5 2", "select (select 7),count(*),(select max(a) from t) from t");
        db.query("4 5", "select (select count(b) from t q where q.b<5),count(*) from t having (select count(*) from t)=count(b)");
        db.query("0", "select count(*) where 0");
        db.query("5 5", "select count(*),count(1) from t");
    }

    /** sum, min and max leave nulls out, and are null if nothing else is there; with distinct each value is taken in once. */
    private static void aggregates() {
        db.query("5 3 2 5 3 1 2", "select count(*),count(a),count(distinct a),sum(a),sum(distinct a),min(a),max(a) from t");
        db.query("2 0 0 null null null null", "select count(*),count(a),count(distinct a),sum(a),sum(distinct a),min(a),max(distinct a) from t where a is null");
        db.query("0 null", "select count(null),sum(null) from t");
        db.query("0 0 null", "select count(null),count(distinct null),min(null)");
        db.ok("create table x (b text)").ok("insert into x values ('b'),(''),(null),('ab'),('b')");
        db.query("'' 'b' 4 3", "select min(b),max(b),count(b),count(distinct b) from x");
        db.query("null null", "select min(b),max(b) from x where b is null");
        db.query("6", "select sum(distinct b%2)+5 from t");
    }

    /** sum adds one value after the other, and is null, if it gets outside of 64 bits on the way. */
    private static void sumsOnTheWay() {
        db = new Db();
        db.ok("create table t (a int,g int)");
        db.prepare(3, "insert into t values (?,?)");
        long[] values = {GREATEST, 1, -1, LEAST, -1, 1, GREATEST, 0, LEAST, LEAST, 0};
        long[] groups = {1, 1, 1, 2, 2, 2, 3, 3, 3, 4, 4};
        for (int i = 0; i < values.length; i++) {
            db.store.bindNumber(3, 0, values[i]);
            db.store.bindNumber(3, 1, groups[i]);
            db.store.run(3);
        }
        db.query("1 null; 2 null; 3 -1; 4 -9223372036854775808", "select g,sum(a) from t group by g");
        db.query("9223372036854775807", "select sum(a) from (select a from t where g=1 order by a) x");
        db.query("null", "select sum(a) from (select a from t where g=1 order by a desc) x");
        db.query("1", "select sum(a) is null from t where g=1");
        db.query("3", "select count(a) from t where g=1");
        db.query("-1", "select sum(distinct a) from t where g=3");
        // A sum that is null by this is as null as any other.
        db.query("null", "select distinct sum(a) from t where g<3 group by g");
        db.query("null", "select sum(a) from t where g=1 union select null");
    }

    private static void fill(String table, int rows) {
        db.ok("create table " + table + " (a int)");
        for (int at = 0; at < rows; at += 8) {
            StringBuilder b = new StringBuilder("insert into " + table + " values ");
            for (int i = at; i < at + 8 && i < rows; i++) b.append(i > at ? ",(" : "(").append(i).append(')');
            db.ok(b.toString()).store.checkpoint();
        }
    }

    private static void tooMuch(String text) {
        db.code(8, text);
        Db.due("what is told of " + text, "8 0 0 0 1500",
            db.store.code() + " " + db.store.rows() + " " + db.store.columns() + " " + db.store.changed() + " " + db.store.steps());
    }

    /** No list gets longer than 60: rows of a core, and of cores joined so far. What would go beyond is code 8. */
    private static void sixtyRows() {
        db = new Db();
        fill("t", 60);
        fill("u", 61);
        db.ok("select a from t");
        Db.due("60 rows", 60, db.store.rows());
        tooMuch("select a from u");
        tooMuch("select a from u limit 1");
        tooMuch("select a from u order by a limit 0");
        tooMuch("select (select a from u)");
        tooMuch("select exists (select a from u)");
        tooMuch("select 1 in (select a from u)");
        tooMuch("select 1 from (select a from u) x where 0");
        db.ok("select a from u where a<60");
        db.ok("select distinct a%60 from u");
        tooMuch("select distinct a from u");
        db.ok("select a from t union all select 1 where 0");
        tooMuch("select a from t union all select 1");
        db.ok("select a from t union select 59");
        tooMuch("select a from t union select 60");
        tooMuch("select a from t union all select 1 intersect select 1");
        db.ok("select a from t except select 1");
        db.ok("select a from t intersect select a from t");
        db.ok("select a from t except select a from t union all select a from t");
        db.query("", "select a from t except select a from t");
        // A core that is joined is a list of its own.
        tooMuch("select 1 except select a from u");
        db.code(8, "insert into t select a from u");
        db.query("60", "select count(*) from t");
    }

    /** ... groups, different values of an aggregate with distinct in a group, rows to change or to take out. */
    private static void sixtyOfOthers() {
        db.ok("select count(*) from t group by a");
        tooMuch("select count(*) from u group by a");
        tooMuch("select count(*) from u group by a having 0");
        tooMuch("select count(*) from u group by a limit 0");
        String twice = ",(select 1 as k union select 2) y";
        db.ok("select count(*) from t x" + twice + " group by x.a");
        Db.due("60 groups of two", "60 2", db.store.rows() + " " + db.store.numberAt(59, 0));
        db.query("60", "select count(distinct a) from t");
        tooMuch("select count(distinct a) from u");
        tooMuch("select min(distinct a) from u");
        tooMuch("select sum(distinct a) from u");
        db.query("60", "select count(distinct a%60) from u");
        db.query("61 61", "select count(a),count(*) from u");
        db.query("60", "select count(distinct case when a<60 then a end) from u");
        // In a group of its own each.
        db.query("60; 60", "select count(distinct x.a) from t x" + twice + " group by y.k");
        tooMuch("update u set a=a");
        tooMuch("delete from u");
        db.ok("update u set a=a where a<60");
        Db.due("60 rows are changed", "60 61", db.store.changed() + " " + db.store.steps());
        db.ok("delete from u where a<60");
        Db.due("60 rows are taken out", "60 61", db.store.changed() + " " + db.store.steps());
        db.query("60", "select a from u");
    }

    /** A statement has at most 1500 steps; what would go beyond is code 8. */
    private static void stepsToTheLast() {
        db = new Db();
        fill("t", 30);
        fill("u", 49);
        db.query("1470", "select count(*) from t,u");
        Db.due("1500 steps", 1500, db.store.steps());
        tooMuch("select count(*),(select count(*) from (select 1 as a) x) from t,u");
        tooMuch("select count(*) from (select 1 as a) x,t,u");
        db.query("1421", "select count(*) from t,u where t.a>0");
        db.ok("insert into u values (49)");
        tooMuch("select count(*) from t,u");
        db.ok("delete from u where a=49");
        // Steps of queries that are run anew, of an insert, of an update and of a delete count alike.
        db.ok("insert into t values ((select count(*) from t x,u y))");
        Db.due("1500 steps of an insert", 1500, db.store.steps());
        db.ok("delete from t where a=1470");
        Db.due("steps of a delete", 31, db.store.steps());
        db.code(8, "insert into t values ((select count(*) from t x,u y)),((select count(*) from (select 1 as a) z))");
        db.query("30", "select count(*) from t");
        db.ok("create table c (a int)").ok("insert into c values (1),(2)");
        // 2 for c, and 49 + 49 * 14 = 735 each; 1472 in all.
        db.ok("update c set a=(select count(*) from u,t where t.a<14)-(select count(*) from u where u.a<0) where a=9");
        Db.due("no row is changed", "0 2", db.store.changed() + " " + db.store.steps());
        db.code(8, "update c set a=(select count(*) from u,t)");
        db.code(8, "delete from c where a<(select count(*) from u,t)");
        db.query("1; 2", "select a from c");
    }

    /** Each entry that is found is a step; then the rows of these entries are taken up. */
    private static void stepsOfIndices() {
        db = new Db();
        fill("t", 30);
        fill("u", 25);
        db.ok("create index i on u(a)");
        // 30 rows, for each of them 24 entries and 24 rows: 1470.
        db.query("720", "select count(*) from t,u where u.a>0");
        Db.due("steps", 30 + 30 * 48, db.store.steps());
        // 30 + 30 * 50 would be too many.
        tooMuch("select count(*) from t,u where u.a>=0");
        steps(2, "select a from u where a=7");
        steps(0, "select a from u where a=77");
        db.query("30", "select count(*) from t left join u on u.a=t.a");
        Db.due("steps of a left join", 30 + 2 * 25, db.store.steps());
        db.ok("delete from u where a>=3");
        Db.due("steps of a delete", 2 * 22, db.store.steps());
        db.ok("update u set a=a+1 where a between 1 and 2");
        Db.due("steps of an update", 2 * 2, db.store.steps());
        db.query("0; 2; 3", "select a from u");
    }

    /** Each row that is taken up is a step, of a list as of a table; those of the queries themselves are counted, too. */
    private static void stepsOfLists() {
        steps(1, "select 1 from (select 1 as a) x");
        steps(0, "select 1 from (select 1 as a where 0) x");
        steps(3 + 3, "select 1 from (select a from u) x");
        steps(3 + 1, "select 1 from (select a from u limit 1) x");
        steps(3 + 3 + 9, "select 1 from (select a from u) x,u");
        steps(3 + 3 + 9, "select 1 from u,(select a from u) x");
        db.ok("create view v as select a from u where a>0");
        // By the index: two entries, two rows; then the two rows of the list.
        steps(2 + 2 + 2, "select a from v");
        steps(4 + 4 + 2 + 4, "select 1 from v x,v y");
        steps(0, "select 1 union select 2");
        steps(3 + 3, "select a from u union select a from u");
        steps(3, "select count(*) from u order by 1 limit 0");
    }

    /** What the bounds let stand in each other: four queries, eight brackets, heights of 16, four sources each. */
    private static void deepest() {
        db = new Db();
        db.ok("create table t (a int unique)").ok("insert into t values (1)");
        String q = "select a" + "+1".repeat(15) + " from t";
        for (int i = 0; i < 3; i++) q = "select (" + q + ")" + "+1".repeat(15) + " from t p,t q,t r where p.a=q.a and q.a=r.a";
        db.query("61", q);
        String cases = "a";
        for (int i = 0; i < 7; i++) cases = "case when a=1 then " + cases + "+1 else 0 end";
        db.query("8", "select " + cases + " from t");
        String brackets = "a";
        for (int i = 0; i < 7; i++) brackets = "1-(" + brackets + "*1)";
        db.query("0", "select " + brackets + " from t");
        db.query("7", "select ((((((((a+1)+1)+1)+1)+1)+1)))+0 from t");
        String calls = "a";
        for (int i = 0; i < 7; i++) calls = "abs(-" + calls + ")";
        db.query("1", "select " + calls + " from t");
        String sources = "select a from t";
        for (int i = 0; i < 3; i++) sources = "select x.a from (" + sources + ") x join t y on x.a=y.a left join t z on z.a=x.a and z.a>0";
        db.query("1", sources);
        db.ok("create view v as select x.a from t x,t y where x.a in (select a from t z where z.a=x.a)");
        db.ok("create view w as select p.a from v p,v q where p.a=q.a");
        db.query("1", "select a from w");
    }

    // ---- 7. Which index

    private static void used(String want, String text) {
        Db.due(text, 0, db.prepare(4, text));
        StringBuilder b = new StringBuilder();
        for (int i = 0; db.store.indexUsed(4, i) != -2 && i < 12; i++) {
            b.append(i > 0 ? " " : "").append(db.store.indexUsed(4, i)).append(':').append(db.store.worthOf(4, i));
        }
        Db.due(text, want, b.toString());
    }

    private static void indexed() {
        db = new Db();
        db.ok("create table t (a int unique,b int,c int,d text,unique(b,c))").ok("create index i on t(d)").ok("create index j on t(c,b,a)");
        db.ok("create table u (a int,b int unique)");
    }

    /** A part is usable for a column c, if it is c = e, e = c, c < e and so on, or c between e and f without not. */
    private static void usableParts() {
        indexed();
        String[] equal = {"a=1", "1=a", "t.a=1", "(a)=(1)", "((a=1))", "a=?", "a=null", "a=1+2*3", "a=abs(-1)", "a=case when 1 then 1 end", "a=1 and b>2",
            "b<>1 and a=1", "(b>1 and (c<>2 and a=1))", "a=coalesce(null,1)", "1-1=a", "a=(1 in (1))"};
        for (String part : equal) used("0:2", "select 1 from t where " + part);
        String[] range = {"a<1", "a<=1", "a>1", "a>=1", "1<a", "1<=a", "1>a", "1>=a", "a between 1 and 2", "(a)>(?)", "a>1 and a<2", "a>1 and a>2",
            "a between null and null"};
        for (String part : range) used("0:1", "select 1 from t where " + part);
        used("2:2", "select 1 from t where d='x'");
        used("2:1", "select 1 from t where d>=$");
    }

    /** ... neither e nor f has a query in it, or a ref to a column of this source or of a later one of this core. */
    private static void notUsableParts() {
        String[] none = {"a<>1", "a is null", "a is not null", "a in (1)", "a not between 1 and 2", "not a=1", "a=1 or a=1", "a+0=1", "-a=1", "a=a", "a=b",
            "a=b+1", "a>b", "a between 1 and b", "a between b and 1", "1 between a and 2", "1 between 0 and a", "a=(select 1)", "a=1+(select 1)",
            "a=exists (select 1)", "a=(1 in (select 1))", "a between (select 1) and 2", "a between 1 and (select 2)", "(select 1)=a", "a", "1", "null", "(a=1) is null",
            "(a=1)=1", "(a=1) is not null", "coalesce(a,1)=1", "d like 'x'", "d||''='x'", "not (a=1 and b=1)"};
        for (String part : none) used("-1:0", "select 1 from t where " + part);
        used("-1:0", "select 1 from t");
        // Of a later source; of one ahead, or further out, it is usable.
        used("-1:0 0:2", "select 1 from t,u where t.a=u.b");
        used("-1:0 0:2", "select 1 from u,t where t.a=u.a");
        used("-1:0 0:2", "select 1 from u where exists (select 1 from t where t.a=u.a)");
        used("-1:0 0:2 0:2", "select 1 from u where exists (select 1 from t,u x where t.a=u.a and x.b=t.b)");
        used("-1:0 -1:0", "select 1 from t join u on t.a=u.a");
        used("-1:0 0:2", "select 1 from t left join u on t.a=u.b");
        used("-1:0 -1:0", "select 1 from u left join t on 1 where t.a=1");
        used("0:2 -1:0", "select 1 from t left join u on 1 where t.a=1");
        used("0:2", "select 1 from t where a=1 having 1");
        used("-1:0", "select 1 from t having 1=1");
        used("0:2", "update t set b=1 where a=1");
        used("-1:0", "update t set a=1");
        used("0:1", "delete from t where a<1");
        used("-1:0", "delete from t where a=b");
    }

    /** The worth of the index is 2 * k, and 1 more if there is a lower or an upper one behind them. */
    private static void worths() {
        used("1:2", "select 1 from t where b=1");
        used("1:4", "select 1 from t where b=1 and c=1");
        used("1:3", "select 1 from t where b=1 and c>1");
        used("1:3", "select 1 from t where b=1 and c>1 and c<3");
        used("1:1", "select 1 from t where b>1 and c+0=1");
        used("3:2", "select 1 from t where c=1");
        used("3:3", "select 1 from t where c=1 and b<1");
        used("3:6", "select 1 from t where c=1 and b=1 and a=1");
        used("3:5", "select 1 from t where c=1 and b=1 and a between 1 and 2");
        // The column behind the last that is equal, none further on.
        used("3:3", "select 1 from t where c=1 and b>1 and a+0=1");
        used("3:1", "select 1 from t where c>1 and a+0=1");
        used("3:2", "select 1 from t where c=1 and d<>'x'");
        used("-1:0", "select 1 from t where c is null");
    }

    /** The index with the greatest worth is used, of several the one with the smallest number. */
    private static void oneOfSeveral() {
        used("0:2", "select 1 from t where b=1 and a=1");
        used("0:2", "select 1 from t where d='x' and a=1");
        used("1:2", "select 1 from t where d='x' and b=1");
        used("1:4", "select 1 from t where b=1 and c=1 and a<>1");
        used("3:5", "select 1 from t where b=1 and c=1 and a>1");
        used("1:4", "select 1 from t where c=1 and b=1");
        used("0:1", "select 1 from t where a>1 and b>1 and c>1 and d>'x'");
        used("2:2", "select 1 from t where a>1 and d='x'");
        db.ok("create index k on t(a)");
        used("0:2", "select 1 from t where a=1");
        db.ok("drop index i");
        used("-1:0", "select 1 from t where d='x'");
        used("2:6", "select 1 from t where c=1 and b=1 and a=1");
    }

    /** The index finds the entries whose first k values are equal, and whose next value is not null and as told. */
    private static void foundEntries() {
        db = new Db();
        db.ok("create table t (a int,b int,c text)").ok("create index i on t(a,b)").ok("create index j on t(c)");
        db.prepare(3, "insert into t values (?,?,$)");
        Long[][] rows = {{1L, LEAST}, {1L, -1L}, {1L, 0L}, {1L, GREATEST}, {1L, null}, {2L, 0L}, {null, 0L}, {0L, null}, {null, null}};
        String[] texts = {"", "a", "ab", "b", "ab", "a", "", "~", " "};
        for (int i = 0; i < rows.length; i++) {
            for (int k = 0; k < 2; k++) {
                if (rows[i][k] == null) db.store.bindNull(3, k);
                else db.store.bindNumber(3, k, rows[i][k]);
            }
            db.tape(texts[i]).store.bindText(3, 2);
            db.store.run(3);
        }
        String all = "-9223372036854775808; -1; 0; 9223372036854775807";
        found(all + "; null", 10, "select b from t where a=1");
        found("-9223372036854775808; -1", 4, "select b from t where a=1 and b<0");
        found("-9223372036854775808; -1; 0", 6, "select b from t where a=1 and b<=0");
        found("9223372036854775807", 2, "select b from t where a=1 and b>0");
        found("0; 9223372036854775807", 4, "select b from t where a=1 and 0<=b");
        found("-1; 0", 4, "select b from t where a=1 and b between -1 and 0");
        found("", 0, "select b from t where a=1 and b between 0 and -1");
        found("-9223372036854775808; -1", 4, "select b from t where a=1 and 0>b");
        found("-9223372036854775808; -1; 0", 6, "select b from t where a=1 and 0>=b");
        found("9223372036854775807", 2, "select b from t where a=1 and 0<b");
        found("-1; 0", 4, "select b from t where a=1 and -1<=b and 0>=b");
        found("0", 2, "select b from t where a=1 and -1<b and 1>b");
        found("", 0, "select b from t where a=1 and 0>b and 0<=b");
        found("", 0, "select b from t where a=1 and b>0 and b<0");
        found("0", 2, "select b from t where a=1 and b=0");
        found("", 0, "select b from t where a=3");
        found("1; 1; 1; 1; 1; 2", 12, "select a from t where a>0");
        found("1; 1; 1; 1; 1; 2; 0", 14, "select a from t where a>=0");
        found("0", 2, "select a from t where a<1");
        found("2", 2, "select a from t where a>1 and a<3");
        found("''; 'a'; 'ab'; 'b'; 'ab'; 'a'; ''; '~'; ' '", 18, "select c from t where c>=''");
        found("'ab'; 'b'; 'ab'; '~'", 8, "select c from t where c>'a'");
        found("'a'; 'ab'; 'ab'; 'a'", 8, "select c from t where c between 'a' and 'ab'");
        found("''; 'a'; 'a'; ''; ' '", 10, "select c from t where c<'ab'");
        found("''; ''", 4, "select c from t where c<=''");
        found("", 0, "select c from t where c<''");
        db.prepare(3, "select b from t where a=1 and b>=? and b<=?");
        db.store.bindNumber(3, 0, LEAST);
        db.store.bindNumber(3, 1, GREATEST);
        db.store.run(3);
        Db.due("all but null", all + " 8", db.told() + " " + db.store.steps());
        db.prepare(3, "select c from t where c=$");
        db.tape("a".repeat(60)).store.bindText(3, 0);
        Db.due("a text that no row can have", "0 0 0", db.store.run(3) + " " + db.store.rows() + " " + db.store.steps());
    }

    /** An index of three columns, of which one, two or all three are equal. */
    private static void threeColumns() {
        db = new Db();
        db.ok("create table t (a int,b text,c int)").ok("create index i on t(a,b,c)");
        db.ok("insert into t values (1,'x',1),(1,'x',2),(1,'y',1),(2,'x',1),(1,'x',1),(1,'x',null)");
        found("1; 1; 1; 1; 1", 10, "select a from t where a=1");
        found("1; 2; 1; null", 8, "select c from t where a=1 and b='x'");
        found("1; 1", 4, "select c from t where a=1 and b='x' and c=1");
        found("2", 2, "select c from t where c>1 and b='x' and a=1");
        found("", 0, "select c from t where a=1 and b='x' and c=null");
        found("", 0, "select c from t where a=1 and b='x' and c=3");
        db.ok("update t set c=9 where a=1 and b='x' and c=1");
        Db.due("steps and rows of an update", "4 2", db.store.steps() + " " + db.store.changed());
        db.ok("delete from t where a=1 and b='x' and c=9");
        Db.due("steps and rows of a delete", "4 2", db.store.steps() + " " + db.store.changed());
    }

    /** An index that has a smaller number than its table is one as any other. */
    private static void firstDefinition() {
        db = new Db();
        db.ok("create table x (a int)").ok("create table t (a int,b int)").ok("drop table x").ok("create index i on t(b)").ok("insert into t values (1,5),(2,6)");
        Db.due("trees", "3 2", db.store.trees() + " " + db.store.entriesOf(1));
        found("2", 2, "select a from t where b=6");
        used("0:2", "select a from t where b=6");
        db.ok("delete from t where b=5");
        Db.due("entries", "1 1", db.store.entriesOf(1) + " " + db.store.entriesOf(2));
    }

    private static void found(String want, int steps, String text) {
        db.query(want, text);
        Db.due("steps of " + text, steps, db.store.steps());
    }

    /** None, if any of what was evaluated is null. */
    private static void boundsThatAreNull() {
        String[] none = {"a=null", "a=1 and b=null", "a=null and b=1", "a=1 and b>null", "a=1 and b<null", "a=1 and b>0 and b<null", "a=1 and b between null and 5",
            "a=1 and b between 0 and null", "a>null", "a<null", "c=null", "a=1 and b=null+1"};
        for (String part : none) found("", 0, "select a from t where " + part);
        // In a left join there is the row of nulls then.
        found("1 null", 1, "select k,t.a from (select 1 as k) x left join t on t.a=null");
        db.prepare(3, "select b from t where a=? and b>=?");
        Db.due("parameters that are null", "0 0 0", db.store.run(3) + " " + db.store.rows() + " " + db.store.steps());
    }

    /** -3 if the statement has an error now; otherwise -2 if there is no such source; -1 and 0 if all rows are gone through. */
    private static void askedOfSlots() {
        indexed();
        db.ok("create view v as select a from t where a=1");
        used("", "select 1 from v");
        used("0:2", "select 1 from v,t where t.a=v.a");
        used("-1:0 0:2", "create view w as select t.a from u,t where t.a=u.a");
        used("", "insert into t (a) values (1)");
        used("0:2", "insert into t (a) values ((select b from t where a=1))");
        used("-1:0 0:2", "update u set a=(select b from t where t.a=u.a)");
        used("", "drop table t");
        used("", "begin");
        used("", "create table z (a int,check(a=1))");
        db.prepare(4, "select 1 from t where a=1");
        db.ok("begin").ok("drop table t");
        Db.due("gone for this client", "-3 -3 -3", db.store.indexUsed(4, 0) + " " + db.store.worthOf(4, 0) + " " + db.store.indexUsed(4, -1));
        db.store.use(1);
        Db.due("there for another", "0 2 -2", db.store.indexUsed(4, 0) + " " + db.store.worthOf(4, 0) + " " + db.store.indexUsed(4, 1));
        db.store.use(0);
        db.ok("rollback");
        Db.due("there again", "0 2", db.store.indexUsed(4, 0) + " " + db.store.worthOf(4, 0));
        // It asks for what would be used now.
        db.prepare(4, "select 1 from u where a=1");
        Db.due("without an index", "-1 0", db.store.indexUsed(4, 0) + " " + db.store.worthOf(4, 0));
        db.ok("create index k on u(a)");
        db.prepare(4, "select 1 from u where a=1");
        Db.due("with an index", "1 2", db.store.indexUsed(4, 0) + " " + db.store.worthOf(4, 0));
    }
}
