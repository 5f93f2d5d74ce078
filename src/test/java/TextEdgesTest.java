/**
 * Promises 2, 4, 5 and 8: the edges that the document names of values, tokens, the grammar and its bounds. A ^ in a text marks
 * the place of its error, and is left out.
 */
public final class TextEdgesTest {
    private static final String[] KEYWORDS = ("abs all and as begin between by cascade case check coalesce commit count create default"
        + " delete desc distinct drop else end except exists from group having ignore in index insert int intersect into is join left"
        + " length like limit max min not null offset on or order references release replace rollback savepoint select set substr sum"
        + " table text then to union unique update values view when where").split(" ");
    private static Db db = new Db();

    public static void main(String[] args) {
        ints();
        texts();
        conditions();
        order();
        sameness();
        tape();
        blanks();
        words();
        numbers();
        quotedTexts();
        signs();
        endOfTape();
        bounds();
        openBrackets();
        oneTooMany();
        heights();
        heightsOfOne();
        placesOfHeights();
        Db.end();
    }

    private static void error(int error, String marked) {
        int place = marked.indexOf('^');
        db.error(error, place, marked.substring(0, place) + marked.substring(place + 1));
    }

    private static void wrong(String marked) {
        error(1, marked);
    }

    /** It is a statement within the bounds. */
    private static void right(String text) {
        int error = db.prepare(1, text);
        Db.due(text, true, error != 1 && error != 2);
    }

    private static void is(String want, String items) {
        db.query(want, "select " + items);
    }

    // ---- 1. Values

    /** An int is a whole number of 64 bits. */
    private static void ints() {
        db.prepare(1, "select ?,?,-?,?+1,?-1");
        long[] bound = {Long.MIN_VALUE, Long.MAX_VALUE, Long.MAX_VALUE, Long.MAX_VALUE - 1, Long.MIN_VALUE + 1};
        for (int i = 0; i < bound.length; i++) db.store.bindNumber(1, i, bound[i]);
        db.store.run(1);
        Db.due("ints", "-9223372036854775808 9223372036854775807 -9223372036854775807 9223372036854775807 -9223372036854775808", db.told());
    }

    /** A text is a row of at most 60 bytes, each 32 to 126. null is neither. */
    private static void texts() {
        is("0 0 1", "length(''),'' is null,null is null");
        String twenty = "'aaaaaaaaaaaaaaaaaaaa'";
        is("60", "length(" + twenty + "||" + twenty + "||" + twenty + ")");
        is("null", "length(" + twenty + "||" + twenty + "||" + twenty + "||'b')");
        is("1", "(" + twenty + "||" + twenty + "||" + twenty + "||'b') is null");
        is("60", "length(" + twenty + "||''||" + twenty + "||" + twenty + "||'')");
        is("' ~'", "' ~'");
        Db.due("bytes", "32 126", db.store.byteAt(0, 0, 0) + " " + db.store.byteAt(0, 0, 1));
    }

    /** Conditions are ints: 0 is false, every other int is true, null is unknown. */
    private static void conditions() {
        db.prepare(1, "select case when ? then 1 else 0 end,not ?,? and 1,? or 0,1 where ? having 1");
        long[] truths = {0, 1, -1, 2, Long.MIN_VALUE, Long.MAX_VALUE, 1L << 32};
        for (long n : truths) {
            for (int i = 0; i < 4; i++) db.store.bindNumber(1, i, n);
            db.store.bindNumber(1, 4, 1);
            db.store.run(1);
            Db.due("a condition " + n, n == 0 ? "0 1 0 0 1" : "1 0 1 1 1", db.told());
            db.store.bindNumber(1, 4, n);
            db.store.run(1);
            // Without a combination there is still the one group.
            Db.due("where " + n, 1, db.store.rows());
        }
        for (int i = 0; i < 4; i++) db.store.bindNull(1, i);
        db.store.run(1);
        Db.due("a condition that is null", "0 null null null 1", db.told());
        String[][] rows = {{"1", "1"}, {"-1", "1"}, {"0", ""}, {"null", ""}};
        for (String[] r : rows) {
            db.query(r[1], "select 1 where " + r[0]);
            db.query(r[1], "select 1 having " + r[0]);
            db.query(r[1].isEmpty() ? "" : "1", "select 1 from (select 1 as a) x join (select 1 as b) y on " + r[0]);
        }
    }

    /** null comes first; ints are ordered by their value, texts by their bytes, a beginning of another text ahead of it. */
    private static void order() {
        db = new Db();
        db.ok("create table t (a int,b text)");
        db.prepare(1, "insert into t (a) values (?),(?),(?),(?),(?),(?)");
        long[] bound = {Long.MAX_VALUE, 0, Long.MIN_VALUE, 1L << 32, -1};
        for (int i = 0; i < bound.length; i++) db.store.bindNumber(1, i, bound[i]);
        db.store.run(1);
        db.query("null; -9223372036854775808; -1; 0; 4294967296; 9223372036854775807", "select a from t order by a");
        db.query("-9223372036854775808 9223372036854775807", "select min(a),max(a) from t");
        db.ok("delete from t").ok("insert into t (b) values ('ab'),('b'),(''),('a'),(null)");
        db.ok("insert into t (b) values ('aa'),(' '),('~'),('a ')");
        db.query("null; ''; ' '; 'a'; 'a '; 'aa'; 'ab'; 'b'; '~'", "select b from t order by b");
        db.query("'~'; 'b'; 'ab'; 'aa'; 'a '; 'a'; ' '; ''; null", "select b from t order by b desc");
        db.query("'' '~'", "select min(b),max(b) from t");
        is("1 1 0 1", "''<' ','a'<'a ','a'<'a','Z'<'a'");
    }

    /** Two values are the same, if they are equal or both null. */
    private static void sameness() {
        db = new Db();
        db.ok("create table t (a int,b text)").ok("insert into t values (null,null),(0,''),(null,null),(0,''),(0,null),(null,'')");
        db.query("null null; 0 ''; 0 null; null ''", "select distinct a,b from t");
        db.query("null null 2; 0 '' 2; 0 null 1; null '' 1", "select a,b,count(*) from t group by a,b");
        db.query("null", "select null union select null");
        db.query("", "select null except select null");
        db.query("null", "select null intersect select null");
        is("null", "null=null");
    }

    // ---- 2. Tokens

    /** The tape is a row of at most 800 bytes (none, at first). */
    private static void tape() {
        db = new Db();
        Db.due("prepare of nothing", "1 0", db.store.prepare(0) + " " + db.store.errorAt());
        db.prepare(0, "select $");
        Db.due("no text", 0, db.store.bindText(0, 0));
        String full = "select '" + "a".repeat(24) + "'" + " ".repeat(767);
        Db.due("800 bytes", 800, full.length());
        db.error(0, -1, full);
        db.error(0, -1, " ".repeat(792) + "select 1");
        db.error(1, 799, full.substring(0, 799) + ")");
        db.error(1, 800, " ".repeat(792) + "select  ");
        // Twenty bytes a call, the four of each number with the highest one first.
        db.prepare(0, "select $");
        db.store.feed(0x20217e41, 0x61627a30, 0x395f2728, 0x292c2e2a, 0x2b2d2f25);
        Db.due("a fed text", 20, db.store.bindText(0, 0));
        db.store.run(0);
        Db.due("its bytes", "' !~Aabz09_'(),.*+-/%'", db.told());
        db.tape("ab");
        db.store.feed(0x63646566, 0x6768696a, 0x6b6c6d6e, 0x6f707172, 0x73747576);
        db.store.trim(5);
        db.store.bindText(0, 0);
        db.store.run(0);
        Db.due("only the first bytes stay", "'abcde'", db.told());
        db.store.feed(-1, -1, -1, -1, -1);
        Db.due("bytes of 255", "IllegalArgumentException", () -> db.store.bindText(0, 0));
    }

    /** Blanks (32) and line ends (10) may stand between tokens, ahead of them and behind them. */
    private static void blanks() {
        right("\n\n select\n 1 \n");
        right("select(1)+2,'a'||'b'");
        right("select 1from(select 1 as a)t where 1group by a order by 1limit 1");
        for (int b = 0; b < 256; b++) {
            boolean parts = b == 32 || b == 10 || b == '-';
            int error = db.prepare(1, "select" + (char) b + "1");
            Db.due("byte " + b + " between two tokens", parts, error == 0);
        }
        wrong("^\tselect 1");
        wrong("select 1^\r");
        wrong("select 1^\u0000");
    }

    /** A word: a letter a to z, then letters, digits and _; at most 10 bytes. */
    private static void words() {
        db = new Db();
        db.ok("create table a123456789 (z_________ int)").ok("insert into a123456789 values (5)");
        db.query("5", "select z_________ from a123456789");
        error(3, "select 1 from ^a123456788");
        error(3, "select 1 from ^a12345678");
        error(3, "select ^z________ from a123456789");
        wrong("select 1 from ^a1234567890");
        wrong("select 1 from ^aaaaaaaaaaaaaaaaaaaaaaaaaaaaaaaaaaaaa");
        wrong("select 1 from ^_a");
        wrong("select 1 from ^1a");
        wrong("select 1 from ^A");
        wrong("select 1 from a^A");
        wrong("select 1 from ^{");
        wrong("select 1 from ^`");
        for (String word : KEYWORDS) {
            wrong("drop table ^" + word);
            error(word.length() < 10 ? 3 : 1, "drop table ^" + word + "x");
            error(3, "drop table ^" + word.substring(0, word.length() - 1) + "_");
        }
        Db.due("keywords", 67, KEYWORDS.length);
    }

    /** A number: digits; at most 18. */
    private static void numbers() {
        is("999999999999999999 0 1", "999999999999999999,000000000000000000,000000000000000001");
        wrong("select ^1000000000000000000");
        wrong("select ^0000000000000000000");
        wrong("select ^99999999999999999999999999999999999999");
        wrong("select 11^a");
        wrong("select 1^.5");
        is("-1", "-1");
    }

    /** A quoted text: bytes 32 to 126, where '' stands for one '; at most 24 bytes of text (a '' is one). */
    private static void quotedTexts() {
        is("'' ''' 'a'b' ''''", "'','''','a''b',''''''");
        is("24 24", "length('" + "a".repeat(24) + "'),length('" + "''".repeat(24) + "')");
        wrong("select ^'" + "a".repeat(25) + "'");
        wrong("select ^'" + "''".repeat(25) + "'");
        wrong("select ^'" + "a".repeat(24) + "'''");
        wrong("select ^'");
        wrong("select ^'''");
        wrong("select ^'a''");
        wrong("select ^'a''b");
        for (int b : new int[] {0, 10, 31, 127, 128, 255}) db.error(1, 7, "select 'a" + (char) b + "b'");
        right("select ' ~'");
        // An error ahead of a wrong token comes first.
        wrong("select 1 ^1 '");
        wrong("select 1,^'");
    }

    /** A sign, each read as far as possible; anything else is a wrong token, also a single | . */
    private static void signs() {
        is("1 1 1", "1<=1,1>=1,1<>2");
        wrong("select 1< ^=1");
        wrong("select 1<=^>1");
        wrong("select 1<>^=1");
        wrong("select 1>^<1");
        wrong("select 1=^=1");
        wrong("select 'a' ^|'b'");
        wrong("select 'a'||^|'b'");
        wrong("select 'a' ^| |'b'");
        wrong("select 'a'^|");
        wrong("select 1<^");
        wrong("select 1>=^");
        wrong("select 1 ^!=2");
        wrong("select 1>^||'a'");
        wrong("select 1<^||'a'");
        wrong("select 'a'||^>1");
        wrong("select (^=1)");
        wrong("select (1)^)=1");
        right("select (1)=1,(1)>(0),(1)<=(1),-1>-2,?=?,?>?,$<>$");
        for (char c : "!\"#&:;@[\\]^`{}~|\u0080".toCharArray()) {
            db.error(1, 9, "select 1 " + c + " 2");
            db.error(1, 8, "select 1" + c);
        }
    }

    // ---- 3. The grammar

    /** At the end of the tape, the place is the length of the tape. */
    private static void endOfTape() {
        db.error(1, 0, "");
        db.error(1, 3, "   ");
        db.error(1, 6, "select");
        db.error(1, 9, "select  \n");
        db.error(1, 10, "create    ");
        db.error(1, 800, " ".repeat(800));
        // Each statement, cut off behind each of its tokens that cannot be the last one.
        String[] whole = {"select 1 limit ^", "select 1 limit 1 offset ^", "select 1 order by ^", "select 1 order ^", "select 1 from ^", "select 1 from t,^",
            "select 1 from t join ^", "select 1 from t left ^", "select 1 from t left join u ^", "select 1 from t join u on ^", "select 1 where ^", "select 1 group ^",
            "select 1 group by ^", "select 1 group by t.^", "select 1 having ^", "select 1 as ^", "select distinct ^", "select 1 union ^", "select 1 union all ^",
            "select 1 in ^", "select 1 in (^", "select 1 not ^", "select 1 is ^", "select 1 is not ^", "select 1 between 2 ^", "select 1 between 2 and ^", "select 1 like ^",
            "select case ^", "select case when 1 ^", "select case when 1 then ^", "select case when 1 then 2 else ^", "select exists ^", "select count ^", "select count(^",
            "select count(* ^", "select (select 1 limit ^)", "select (select 1 limit 1 offset ^)", "select not ^", "select -^", "select 1||^", "insert ^", "insert or ^",
            "insert into ^", "insert into t ^", "insert into t (a) ^", "insert into t values ^", "insert into t values (1),^", "update ^", "update t ^", "update t set ^",
            "update t set a ^", "update t set a=^", "update t set a=1 where ^", "delete ^", "delete from ^", "delete from t where ^", "create ^", "create unique ^",
            "create table ^", "create table t ^", "create table t (^", "create table t (a ^", "create table t (a int ^", "create table t (a int not ^",
            "create table t (a int default ^", "create table t (a int default -^", "create table t (a int references ^", "create table t (a int references t(a) on ^",
            "create table t (a int references t(a) on delete ^", "create table t (a int references t(a) on delete set ^", "create table t (a int,check ^",
            "create table t (a int,unique(^", "create index ^", "create index i ^", "create index i on ^", "create index i on t ^", "create index i on t(a ^",
            "create view ^", "create view v ^", "create view v as ^", "drop ^", "drop table ^", "savepoint ^", "release ^", "rollback to ^"};
        for (String text : whole) wrong(text);
        db.error(1, 31, "select 1,2,3,4,5,6,7,8 union   ");
    }

    private static String several(String one, int count) {
        return String.join(",", java.util.Collections.nCopies(count, one));
    }

    /** 6 columns and 4 rules of a table; 3 names behind on NAME of an index, and in a unique rule; 8 rows; 6 settings; and so on. */
    private static void bounds() {
        String six = "create table t (a int,b int,c int,d int,e int,f int";
        right(six + ")");
        wrong(six + ",^g int)");
        String four = ",check(1),unique(a),check(2),unique(b)";
        right(six + four + ")");
        wrong(six + four + ",^check(3))");
        wrong(six + four + ",^unique(c))");
        right("create table t (a int" + four + ")");
        wrong("create table t (a int" + four + ",^unique(a))");
        right("create index i on t (a,b,c)");
        wrong("create index i on t (a,b,c,^d)");
        right("create table t (a int,unique(a,b,c))");
        wrong("create table t (a int,unique(a,b,c,^d))");
        right("insert into t values " + several("(1)", 8));
        wrong("insert into t values " + several("(1)", 8) + ",^(1)");
        right("update t set " + several("a=1", 6));
        wrong("update t set " + several("a=1", 6) + ",^a=1");
        right("select 1 union select 1 union all select 1 intersect select 1");
        wrong("select 1 union select 1 union all select 1 intersect select 1 union ^select 1");
        right("select " + several("1", 8));
        wrong("select " + several("1", 8) + ",^1");
        right("select 1 from " + several("t", 4));
        wrong("select 1 from " + several("t", 4) + ",^t");
        wrong("select 1 from " + several("t", 4) + " join ^t on 1");
        wrong("select 1 from t join t on 1 left join t on 1 join t on 1 left join ^t on 1");
        wrong("select 1 from " + several("t", 4) + ",^(select 1) x");
        right("select 1 from t group by " + several("a", 4));
        wrong("select 1 from t group by " + several("a", 4) + ",^a");
        right("select 1 order by " + several("1", 4));
        wrong("select 1 order by " + several("1 desc", 4) + ",^1");
        right("select " + "?+".repeat(11) + "?");
        wrong("select " + "?+".repeat(12) + "^?");
        right("select " + "$||".repeat(11) + "$");
        wrong("select " + "$||".repeat(12) + "^$");
        right("select 1 where 1 in (" + several("?", 10) + ") limit ? offset ?");
        wrong("select 1 where 1 in (" + several("?", 11) + ") limit ? offset ^?");
        wrong("select 1 where 1 in (" + several("?", 12) + ") limit ^?");
        right("select 1 where 1 in (" + several("?", 12) + ") limit 1 offset 1");
        // Each core, each query, and each table has bounds of its own; without a bound there is none.
        right("select " + several("1", 8) + " from (select " + several("1", 8) + " from " + several("t", 4) + ") x");
        right("insert into t (" + several("a", 30) + ") values (" + several("1", 30) + ")");
        right("select 1 in (" + several("1", 100) + ")");
        right("select coalesce(" + several("1", 100) + ")");
        right("select case " + "when 1 then 1 ".repeat(40) + "end");
    }

    /** At most 8 of "(" and case may be open at once, a case till its end. */
    private static void openBrackets() {
        right("select " + "(".repeat(8) + "1" + ")".repeat(8));
        wrong("select " + "(".repeat(8) + "^(1" + ")".repeat(9));
        right("select " + "case when ".repeat(8) + "1" + " then 1 end".repeat(8));
        wrong("select " + "case when ".repeat(8) + "^case when 1" + " then 1 end".repeat(9));
        wrong("select " + "(".repeat(7) + "case when 1 then ^(1) end" + ")".repeat(7));
        wrong("select " + "(".repeat(7) + "case when ^case when 1 then 1 end then 1 end" + ")".repeat(7));
        right("select " + "(".repeat(7) + "case when 1 then 1 end+(2)+case when 1 then 1 end" + ")".repeat(7));
        right("select " + "(".repeat(7) + "(1)+(1)+count(*)+abs(1)" + ")".repeat(7));
        String eight = "select " + "(".repeat(8);
        for (String word : new String[] {"count", "sum", "length", "abs", "substr", "coalesce", "exists", "1 in", "1 not in", "min"}) {
            wrong(eight + word + " ^(1" + ")".repeat(9));
        }
        wrong(eight + "^(select 1" + ")".repeat(9));
        wrong("select 1 from " + "(select 1 as a from ".repeat(8) + "^(select 1 as a) x" + ") x".repeat(8));
        right("select 1 from " + "(select 1 as a from ".repeat(8) + "t" + ") x".repeat(8));
        wrong("insert into t (a) values " + "(".repeat(8) + "^(1" + ")".repeat(9));
        right("insert into t (a) values " + "(".repeat(8) + "1" + ")".repeat(8));
        wrong("create table t (a int,check" + "(".repeat(7) + "^(1" + ")".repeat(9));
        right("create table t (a int,check" + "(".repeat(7) + "1" + ")".repeat(8));
        wrong("update t set a=" + "(".repeat(8) + "^(1" + ")".repeat(9));
        wrong("delete from t where " + "(".repeat(8) + "^(1" + ")".repeat(9));
        // A row of rows has its brackets closed each time.
        right("insert into t values " + several("((((((((1))))))))", 8));
    }

    /** Of what is one too many, the place is that of the token with which it would begin, never the word ahead of it. */
    private static void oneTooMany() {
        wrong("select 1 union select 2 union select 3 union select 4 union  all\n^select 5");
        wrong("select 1 union select 2 union select 3 union select 4 except ^");
        wrong("select 1 union select 2 union select 3 union select 4 intersect ^1");
        wrong("select 1 from a,b,c,d left  join\n^e");
        wrong("select 1 from a,b,c,d ,^");
        wrong("select 1 from a,b,c,d left ^on 1");
        wrong("create table t (a int,b int,c int,d int,e int,f int,^)");
        wrong("update t set a=1,a=1,a=1,a=1,a=1,a=1,^where 1");
        wrong("select 1 order by 1,1,1,1,^desc");
        wrong("select 1,2,3,4,5,6,7,8,^)");
        wrong("select 1,2,3,4,5,6,7,8,  ^A");
    }

    private static final String OF_15 = "1+".repeat(14) + "1";

    /** Error 2: something has a height of more than 16; the height of a thing is 1 and the greatest height in it. */
    private static void heights() {
        String[] makers = {"X^+1", "1^+(X)", "X^-1", "(X)^*1", "1^/(X)", "(X)^%1", "X^=1", "1^<>(X)", "X^<1", "X^<=1", "X^>1", "X^>=1",
            "X ^is null", "X ^is not null", "^not X", "^-(X)", "X ^and 1", "1 ^and (X)", "X ^or 1", "X ^between 1 and 2",
            "1 ^between X and 2", "1 ^between 1 and X", "1 not ^between 1 and X", "X ^in (1)", "1 ^in (X)", "1 ^in (1,1,X)",
            "X not ^in (1)", "X ^in (select 1)", "X not ^in (select 1)", "^abs(X)", "^coalesce(X)", "^coalesce(1,X)", "^case when X then 1 end",
            "^case when 1 then X end", "^case when 1 then 1 else X end", "^case when 1 then 1 when X then 1 end", "^sum(X)", "^min(X)",
            "^max(distinct X)", "^count(X)", "((X))^+1", "^substr('a',X,1)", "^substr('a',1,X)", "^length((X)||'a')", "X ^like 'a'",
            "'a' ^like (X)", "'a' not ^like (X)", "'a'^||(X)"};
        for (String maker : makers) {
            if (!maker.startsWith("^length")) right("select " + maker.replace("^", "").replace("X", OF_15));
            error(2, "select " + maker.replace("X", OF_15 + "+1"));
        }
        right("select " + OF_15 + "+1");
        error(2, "select " + OF_15 + "+1^+1");
        // In each place of a statement.
        String tall = OF_15 + "+1^+1";
        error(2, "select 1 where " + tall);
        error(2, "select 1 having " + tall);
        error(2, "select 1 from t join t on " + tall);
        error(2, "insert into t values (1),(" + tall + ")");
        error(2, "update t set a=" + tall);
        error(2, "update t set a=1 where " + tall);
        error(2, "delete from t where " + tall);
        error(2, "create table t (a int,check(" + tall + "))");
        error(2, "create view v as select " + tall + " as a");
        error(2, "select 1 from (select " + tall + " as a) x");
        error(2, "select exists (select " + tall + ")");
    }

    /** The height of a number, quoted text, null, parameter, ref, count(*), "(" query ")" and exists is 1; brackets do not count. */
    private static void heightsOfOne() {
        String[] ones = {"1", "'a'", "null", "?", "$", "a", "t.a", "count(*)", "(select " + OF_15 + "+1)", "exists (select " + OF_15 + "+1)",
            "((1))", "(((?)))", "((select 1))"};
        for (String one : ones) {
            right("select " + one + "+1".repeat(15));
            error(2, "select " + one + "+1".repeat(15) + "^+1");
        }
        // count(*) is 1 high, count of an expression more.
        error(2, "select count(1)" + "+1".repeat(14) + "^+1");
        right("select count(1)" + "+1".repeat(14));
    }

    /** Of several the first place of the text; and only without error 1. */
    private static void placesOfHeights() {
        error(2, "select " + "1*".repeat(15) + "1^*1*1," + "1+".repeat(20) + "1");
        error(2, "select 1^-(" + "1*".repeat(18) + "1)");
        error(2, "select ^-(" + "1*".repeat(18) + "1)");
        error(2, "select ^case when 1 then " + "1*".repeat(18) + "1 end");
        wrong("select " + "1*".repeat(18) + "1 ^1");
        wrong("select " + "1*".repeat(18) + "1,^'");
        // Ahead of all that is checked.
        error(2, "select y from z where " + "1*".repeat(15) + "1^*1");
    }
}
