/** Promises 12, 16, 29 to 36: the edges that the document names of changing rows, and of definitions. */
public final class ChangeEdgesTest {
    private static final String TEXT24 = "'aaaaaaaaaaaaaaaaaaaaaaaa'";
    private static Db db;

    public static void main(String[] args) {
        numbersOfRows();
        numbersOfTwoBytes();
        greatestNumber();
        reckonedFirst();
        defaults();
        textsOf24();
        recordsOf80();
        orderOfExamining();
        checksThatAreNull();
        uniqueNulls();
        ignore();
        ignoreNot();
        replace();
        replaceOnTheWay();
        replaceWithReferences();
        updatesByOldValues();
        updatesRowByRow();
        updatesThatChangeNothing();
        updatesOfOneByte();
        referencesOfNewRows();
        referencesOfUpdates();
        referencesToUpdates();
        restricted();
        referencesOfAnyColumn();
        referencesBehindTexts();
        passedOver();
        cascades();
        sixtyOnTheList();
        setNulls();
        setNullOfAny();
        setNullIsExamined();
        circles();
        noSteps();
        numbersOfDefinitions();
        textsOfDefinitions();
        mostIndices();
        indicesThatAreMade();
        indicesOfAnyColumn();
        drops();
        viewsOfWhatIsGone();
        codesChangeNothing();
        Db.end();
    }

    private static void fresh(String... texts) {
        db = new Db();
        for (String t : texts) db.ok(t);
    }

    private static void rows(String want, String table) {
        db.query(want, "select * from " + table);
    }

    private static void changed(int want, String text) {
        db.ok(text);
        Db.due("changed by " + text, want, db.store.changed());
    }

    /** The text has to end with this code, and has changed nothing. */
    private static void refused(int code, String text) {
        long before = pages();
        db.code(code, text);
        Db.due("changed by " + text, 0, db.store.changed());
        Db.due("pages behind " + text, before, pages());
    }

    private static long pages() {
        long d = 0;
        for (int page = 0; page < db.store.pages(); page++) {
            for (int i = 0; i < 256; i++) d = d * 31 + db.store.pageByte(page, i);
        }
        return d;
    }

    /** The numbers of the rows of a table whose tree is a leaf. */
    private static String numbers(int tree) {
        int page = db.store.rootOf(tree);
        StringBuilder b = new StringBuilder();
        int at = 4;
        for (int i = 0; i < db.store.pageByte(page, 1); i++) {
            b.append(i > 0 ? " " : "").append(db.store.pageByte(page, at + 2) * 256 + db.store.pageByte(page, at + 3));
            at += 2 + db.store.pageByte(page, at) + db.store.pageByte(page, at + 1);
        }
        return b.toString();
    }

    // ---- 8. Changing rows

    /** Rows have numbers from 1 on. A new row has the number behind the greatest one there is in this table. */
    private static void numbersOfRows() {
        fresh("create table t (a int)", "create table u (a int)", "insert into t values (1),(2),(3)", "insert into u values (1)");
        Db.due("from 1 on", "1 2 3", numbers(1));
        Db.due("each table has its own", "1", numbers(2));
        db.ok("delete from t where a=2").ok("insert into t values (4)");
        Db.due("behind the greatest one", "1 3 4", numbers(1));
        db.ok("delete from t where a=4").ok("insert into t values (5)");
        Db.due("the greatest one that there is", "1 3 4", numbers(1));
        db.ok("update t set a=9 where a=1");
        Db.due("an update leaves it", "1 3 4", numbers(1));
        db.ok("delete from t where a<9").ok("insert into t values (6)");
        Db.due("behind what is left", "1 2", numbers(1));
        db.ok("delete from t").ok("insert into t values (7)");
        Db.due("from 1 on again", "1", numbers(1));
    }

    /** The key is the number of the row, two bytes, the higher one first. */
    private static void numbersOfTwoBytes() {
        fresh("create table t (a int unique)");
        for (int i = 0; i < 256; i += 8) {
            StringBuilder b = new StringBuilder("insert into t values ");
            for (int k = i; k < i + 8; k++) b.append(k > i ? ",(" : "(").append(k).append(')');
            db.ok(b.toString()).store.checkpoint();
        }
        for (int from = 0; from < 254; from += 50) db.ok("delete from t where a>=" + from + " and a<" + Math.min(254, from + 50)).store.checkpoint();
        Db.due("one byte and two", "255 256", numbers(1));
        db.ok("insert into t values (0)");
        Db.due("behind 256", "255 256 257", numbers(1));
        db.query("254; 255; 0", "select a from t");
        db.query("0", "select a from t where a=0");
        db.ok("delete from t where a=255");
        db.query("254; 0", "select a from t");
    }

    /** If this were more than 65535, the code is 9. (It takes far more than 512 calls to get there.) */
    private static void greatestNumber() {
        fresh("create table s (a int)", "create table t (a int,b int)", "insert into t values (0,0)");
        for (int i = 0; i < 60; i += 6) db.ok("insert into s values (0),(0),(0),(0),(0),(0)");
        db.prepare(4, "insert into t select 0,0 from s limit 59");
        db.prepare(5, "insert into t values (0,1)");
        db.prepare(6, "delete from t where b=0");
        db.prepare(7, "update t set b=0");
        int greatest = 1;
        // Sixty rows are put in, and the last one of them stays.
        for (; greatest + 60 <= 65535; greatest += 60) {
            int codes = 0;
            for (int slot = 4; slot < 8; slot++) codes += db.store.run(slot);
            if (codes > 0) Db.due("codes behind number " + greatest, 0, codes);
            db.store.checkpoint();
        }
        for (; greatest < 65535; greatest++) db.ok("insert into t values (1,0)").store.checkpoint();
        refused(9, "insert into t values (1,0)");
        refused(9, "insert or ignore into t values (1,0)");
        db.ok("delete from t").ok("insert into t values (1,0)");
        Db.due("from 1 on", "1", numbers(2));
    }

    /** insert: all rows are reckoned first, then row by row is put in. */
    private static void reckonedFirst() {
        fresh("create table t (a int unique)", "insert into t values (1),(2)");
        changed(2, "insert into t values ((select max(a) from t)+1),((select max(a) from t)+2)");
        changed(4, "insert into t select a+4 from t");
        rows("1; 2; 3; 4; 5; 6; 7; 8", "t");
        refused(4, "insert into t select a+4 from t");
        changed(0, "insert into t select a from t where 0");
        refused(4, "insert into t values (9),(9)");
        // Sixty rows of a query, and eight behind values.
        fresh("create table s (a int)", "create table u (a int)");
        for (int i = 0; i < 60; i += 6) db.ok("insert into s values (1),(2),(3),(4),(5)," + "(" + i + ")");
        changed(60, "insert into u select a from s");
        db.query("60 1; 60 54", "select count(*),1 from u union all select count(*),max(a) from u");
        fresh("create table t (a int)");
        changed(8, "insert into t values (10),(11),(12),(13),(14),(15),(16),(17)");
    }

    /** Columns without a name in the list have their default, null without one. */
    private static void defaults() {
        fresh("create table t (a int default -5,b text default 'x''y',c int,d int default null,e int default 999999999999999999,f text not null default 'f')");
        changed(1, "insert into t (c) values (1)");
        changed(1, "insert into t (f,a) values ('g',null)");
        changed(2, "insert into t (d) select 7 union all select 8");
        changed(1, "insert into t values (1,'b',2,3,4,'h')");
        rows("-5 'x'y' 1 null 999999999999999999 'f'; null 'x'y' null null 999999999999999999 'g'; -5 'x'y' null 7 999999999999999999 'f';"
            + " -5 'x'y' null 8 999999999999999999 'f'; 1 'b' 2 3 4 'h'", "t");
        refused(3, "insert into t (f) values (null)");
        // A default, and all that may stand around it.
        fresh("create table s (a int unique)", "insert into s values (5)");
        db.ok("create table u (x int,a int not null unique default 5 references s(a) on delete cascade,b int default null references s(a),c int references s(a))");
        changed(1, "insert into u (x) values (1)");
        rows("1 5 null null", "u");
        refused(4, "insert into u (x) values (2)");
        refused(6, "insert into u (a) values (6)");
        refused(6, "insert into u (a,b) values (7,5)");
        changed(2, "delete from s");
        refused(6, "insert into u (x) values (1)");
    }

    /** A text of more than 24 bytes in a column: code 10. */
    private static void textsOf24() {
        fresh("create table t (a int,b text,c text)");
        changed(1, "insert into t values (1," + TEXT24 + ",'')");
        refused(10, "insert into t values (1," + TEXT24 + "||'b','')");
        refused(10, "insert into t values (1,''," + TEXT24 + "||'b')");
        refused(10, "insert into t (b) select b||'b' from t");
        db.ok("create table f (a text,b int)").ok("insert into f values ('',1)");
        refused(10, "insert into f values (" + TEXT24 + "||'b',1)");
        refused(10, "update f set a=" + TEXT24 + "||'b'");
        refused(10, "update t set c=b||'b'");
        changed(1, "update t set c=substr(b,2,23)||'b'");
        db.prepare(1, "insert into t (b) values ($)");
        db.tape("a".repeat(25)).store.bindText(1, 0);
        Db.due("25 bytes", 10, db.store.run(1));
        db.tape("a".repeat(24)).store.bindText(1, 0);
        Db.due("24 bytes", 0, db.store.run(1));
        db.tape("a".repeat(60)).store.bindText(1, 0);
        Db.due("60 bytes", 10, db.store.run(1));
        db.query("2", "select count(*) from t");
    }

    /** A record of more than 80 bytes: code 10. */
    private static void recordsOf80() {
        // 25 + 25 + 25 bytes of texts; then an int of one byte is 2, of 4 bytes 5, of 5 bytes 6.
        fresh("create table t (a text,b text,c text,d int)");
        String three = TEXT24 + "," + TEXT24 + "," + TEXT24;
        changed(1, "insert into t values (" + three + ",2147483647)");
        changed(1, "insert into t values (" + three + ",-2147483648)");
        refused(10, "insert into t values (" + three + ",2147483648)");
        refused(10, "insert into t values (" + three + ",-2147483649)");
        refused(10, "insert or ignore into t values (" + three + ",2147483648)");
        refused(10, "insert or replace into t values (" + three + ",2147483648)");
        refused(10, "update t set d=2147483648 where d>0");
        changed(1, "update t set d=2147483648,c='aaaaaaaaaaaaaaaaaaaaaaa' where d>0");
        db.query("2147483648; -2147483648", "select d from t");
        // Ints of one byte more each.
        fresh("create table n (a text,b text,c text,d int)");
        long[] edges = {0, 127, 128, -128, -129, 32767, 32768, -32768, -32769, 8388607, 8388608};
        int[] bytes = {1, 1, 2, 1, 2, 2, 3, 2, 3, 3, 4};
        for (int i = 0; i < edges.length; i++) {
            String rest = "a".repeat(80 - 25 - 25 - 1 - bytes[i] - 1);
            int code = rest.length() > 24 ? 10 : 0;
            db.code(code, "insert into n values (" + TEXT24 + "," + TEXT24 + ",'" + rest.substring(0, Math.min(24, rest.length())) + "'" + (code > 0 ? "||'a'" : "")
                + "," + edges[i] + ")");
        }
    }

    /** Examining: code 10 of a text, code 3, code 5, code 10 of a record, code 4. */
    private static void orderOfExamining() {
        fresh("create table t (a int not null,b text,c text,d text,e int unique,check(a>0),check(e<100))", "insert into t values (1,'','','',1)");
        String three = TEXT24 + "," + TEXT24 + "," + TEXT24;
        refused(10, "insert into t values (null," + TEXT24 + "||'a',null,null,1000)");
        refused(3, "insert into t values (null," + three + ",1000)");
        refused(5, "insert into t values (0," + three + ",1)");
        refused(5, "insert into t values (0,null,null,null,1)");
        refused(10, "insert into t values (40000," + three + ",1)");
        refused(4, "insert into t values (1,null,null,null,1)");
        refused(5, "insert into t values (1,null,null,null,100)");
        changed(1, "insert into t values (1,null,null,null,99)");
        // A row that was put in ahead of one with a code goes, too.
        refused(3, "insert into t values (1,null,null,null,5),(null,null,null,null,6)");
        refused(10, "update t set a=null,b=" + TEXT24 + "||'a'");
        refused(3, "update t set a=null,e=1000");
        refused(5, "update t set a=0,b=" + TEXT24 + ",c=" + TEXT24 + ",d=" + TEXT24);
        refused(10, "update t set b=" + TEXT24 + ",c=" + TEXT24 + ",d=" + TEXT24 + ",a=40000,e=50");
        refused(4, "update t set e=50");
    }

    /** A check that is false (0, not null): code 5. */
    private static void checksThatAreNull() {
        fresh("create table t (a int,b int,check(a>b),check(null),check(a-5))");
        changed(3, "insert into t values (null,1),(1,null),(2,1)");
        refused(5, "insert into t values (1,1)");
        refused(5, "insert into t values (5,1)");
        changed(1, "insert into t values (6,-1)");
        refused(5, "update t set b=a");
        changed(4, "update t set b=null");
    }

    /** Code 4: another row with the same values there, none of them null. */
    private static void uniqueNulls() {
        fresh("create table t (a int unique,b text,c int,unique(b,c))");
        changed(5, "insert into t values (null,null,null),(null,null,null),(1,'x',null),(null,'x',null),(null,null,1)");
        changed(2, "insert into t values (null,null,1),(2,'x',1)");
        refused(4, "insert into t values (null,'x',1)");
        refused(4, "insert into t values (1,null,null)");
        refused(4, "insert into t values (3,'y',1),(4,'y',1)");
        changed(2, "insert into t values (3,'y',1),(4,'y',2)");
        changed(1, "insert into t values (0,'',0)");
        refused(4, "insert into t values (9,'',0)");
        // A text that begins like another one is another one.
        changed(2, "insert into t values (10,'yy',1),(11,'',1)");
        db.prepare(1, "insert into t (a) values (?)");
        for (long n : new long[] {Long.MIN_VALUE, Long.MAX_VALUE, 1L << 32}) {
            db.store.bindNumber(1, 0, n);
            Db.due("an int " + n, "0 4", db.store.run(1) + " " + db.store.run(1));
        }
    }

    /** With or ignore, a row for which examining tells code 3, 4 or 5 is left out instead. */
    private static void ignore() {
        fresh("create table t (a int unique,b int not null,check(b<10),unique(b))");
        changed(0, "insert or ignore into t values (1,null),(2,10)");
        changed(1, "insert or ignore into t values (1,1),(1,2),(2,1),(1,1)");
        changed(2, "insert or ignore into t values (1,5),(3,3),(null,null),(null,4),(null,4)");
        rows("1 1; 3 3; null 4", "t");
        Db.due("numbers", "1 2 3", numbers(1));
        changed(0, "insert or ignore into t select * from t");
        changed(1, "insert or ignore into t select 1,1 union all select 8,8");
    }

    /** ... but not for code 10, 6, 8 or 9. */
    private static void ignoreNot() {
        fresh("create table t (a int unique,b text)", "create table u (a int references t(a))");
        refused(10, "insert or ignore into t values (1,'x'),(1," + TEXT24 + "||'a')");
        db.ok("insert into t values (1,'x')");
        refused(6, "insert or ignore into u values (1),(2)");
        changed(2, "insert or ignore into u values (1),(null)");
    }

    /** With or replace, the other row is taken out as by delete, and examining goes on with the next index. */
    private static void replace() {
        fresh("create table t (a int unique,b int unique,c text,unique(c,a),check(a<100))", "insert into t values (1,10,'x'),(2,20,'y'),(3,30,'z')");
        changed(3, "insert or replace into t values (1,20,'q')");
        rows("3 30 'z'; 1 20 'q'", "t");
        Db.due("the number is reckoned behind that", "3 4", numbers(1));
        // One row that is the other one by two indices is taken out once.
        changed(2, "insert or replace into t values (1,20,'q')");
        Db.due("numbers", "3 4", numbers(1));
        changed(2, "insert or replace into t values (3,40,'z')");
        changed(1, "insert or replace into t values (null,50,'z')");
        refused(5, "insert or replace into t values (100,50,'z')");
        rows("1 20 'q'; 3 40 'z'; null 50 'z'", "t");
        // The greatest number is free again, if its row is taken out.
        changed(2, "insert or replace into t values (7,50,'w')");
        Db.due("numbers behind the last", "4 5 6", numbers(1));
        fresh("create table t (a int unique,b int not null)", "insert into t values (1,1)");
        refused(3, "insert or replace into t values (1,null)");
    }

    /** Rows of the statement itself are replaced, too. */
    private static void replaceOnTheWay() {
        fresh("create table t (a int unique,b int)");
        changed(5, "insert or replace into t values (1,1),(1,2),(1,3)");
        rows("1 3", "t");
        changed(6, "insert or replace into t values (1,1),(2,2),(2,3),(3,3)");
        rows("1 1; 2 3; 3 3", "t");
        changed(6, "insert or replace into t select a,b+1 from t");
        rows("1 2; 2 4; 3 4", "t");
    }

    /** As by delete: with what references ask for. */
    private static void replaceWithReferences() {
        fresh("create table t (a int unique,b int unique)", "create table u (a int references t(a) on delete cascade)",
            "create table w (b int references t(b) on delete set null)", "create table x (a int references t(a))");
        db.ok("insert into t values (1,1),(2,2)").ok("insert into u values (1),(1),(2)").ok("insert into w values (1),(2)");
        changed(5, "insert or replace into t values (1,5)");
        rows("2", "u");
        rows("null; 2", "w");
        changed(5, "insert or replace into t values (2,5)");
        rows("2 5", "t");
        rows("", "u");
        rows("null; null", "w");
        db.ok("insert into x values (2)");
        refused(6, "insert or replace into t values (2,5)");
        // The list of rows to take out has room for sixty, for each row anew.
        db.ok("delete from x");
        for (int i = 0; i < 7; i++) db.ok("insert into u values (2),(2),(2),(2),(2),(2),(2),(2)").store.checkpoint();
        db.ok("insert into u values (2),(2),(2)");
        changed(61, "insert or replace into t values (2,9)");
        for (int i = 0; i < 7; i++) db.ok("insert into u values (2),(2),(2),(2),(2),(2),(2),(2)").store.checkpoint();
        db.ok("insert into u values (2),(2),(2),(2)");
        refused(8, "insert or replace into t values (2,10)");
    }

    /** update: for each row the new values are evaluated, in the order of the text, all by the old ones. */
    private static void updatesByOldValues() {
        fresh("create table t (a int,b int,c int)", "insert into t values (1,2,3),(4,5,6)");
        changed(2, "update t set a=b,b=a,c=a+b");
        rows("2 1 3; 5 4 9", "t");
        changed(2, "update t set a=(select sum(a) from t)");
        rows("7 1 3; 7 4 9", "t");
        changed(1, "update t set b=t.b+1 where t.b=4");
        changed(0, "update t set b=0 where null");
        changed(2, "update t set a=null,b=null,c=null");
        rows("null null null; null null null", "t");
    }

    /** ... then row by row is changed; other rows are those with another number. */
    private static void updatesRowByRow() {
        fresh("create table t (a int unique,b int)", "insert into t values (1,0),(2,0),(3,0)");
        refused(4, "update t set a=a+1");
        changed(3, "update t set a=a-1");
        changed(3, "update t set a=a");
        refused(4, "update t set a=5");
        changed(1, "update t set a=5 where a=1");
        rows("0 0; 5 0; 2 0", "t");
        refused(4, "update t set a=7-a where a in (2,5)");
        db.query("5", "select a from t where a=5");
        db.query("", "select a from t where a=1");
    }

    /** A row that is the same before and after an update counts as changed, too; its cells stay where they are. */
    private static void updatesThatChangeNothing() {
        fresh("create table t (a int unique,b text)", "insert into t values (1,'x'),(2,'y')");
        int bytes = db.store.logBytes();
        changed(2, "update t set a=a,b=b");
        changed(1, "update t set b='x' where a=1");
        Db.due("nothing is appended", bytes, db.store.logBytes());
        changed(1, "update t set b='z' where a=1");
        Db.due("only the tree of the table", bytes + 262, db.store.logBytes());
        changed(1, "update t set a=3 where a=1");
        Db.due("the table and its index", bytes + 3 * 262, db.store.logBytes());
    }

    /** Records that differ in one byte alone: an empty text and null, two ints, two texts. */
    private static void updatesOfOneByte() {
        fresh("create table t (a text,b int)", "create index i on t(a)", "insert into t values ('',1)");
        String[] texts = {"null,1", "'',1", "'',-1", "null,-1", "'a',-1", "'b',-1", "'b',2", "'',2", "null,2"};
        for (String text : texts) {
            String[] values = text.split(",");
            changed(1, "update t set a=" + values[0] + ",b=" + values[1]);
            rows(text.replace(',', ' '), "t");
            db.query("1", "select count(*) from t where " + (values[0].equals("null") ? "a is null" : "a=" + values[0]));
        }
    }

    /** A new row: if no row of that table has this value in that column, code 6 (its own row counts, too). */
    private static void referencesOfNewRows() {
        fresh("create table t (a int unique,b text unique)", "insert into t values (1,'x'),(null,null)",
            "create table u (a int references t(a),b text references t(b))");
        changed(3, "insert into u values (1,'x'),(null,null),(1,null)");
        refused(6, "insert into u values (2,'x')");
        refused(6, "insert into u values (1,'y')");
        refused(6, "insert into u values (1,'x'),(0,null)");
        fresh("create table s (a int unique,b int references s(a))");
        changed(1, "insert into s values (1,1)");
        refused(6, "insert into s values (2,3),(3,2)");
        changed(2, "insert into s values (3,null),(2,3)");
        refused(6, "insert into s values (null,4)");
    }

    /** Behind an update: for each column with references whose value is another one than before and not null. */
    private static void referencesOfUpdates() {
        fresh("create table t (a int unique)", "insert into t values (1),(2)", "create table u (a int references t(a),b int)",
            "insert into u values (1,0),(null,0)");
        changed(2, "update u set b=1");
        changed(2, "update u set a=2");
        refused(6, "update u set a=3");
        changed(2, "update u set a=null");
        refused(6, "update u set a=0 where b=1");
        fresh("create table s (a int unique,b int references s(a))", "insert into s values (1,1),(2,null)");
        changed(1, "update s set a=5,b=5 where a=1");
        changed(1, "update s set b=5 where a=2");
        refused(6, "update s set b=6 where a=2");
        refused(6, "update s set a=7 where a=5");
    }

    /** ... then code 6, if a row of a table that references it has the old value, which was not null and is another one now. */
    private static void referencesToUpdates() {
        fresh("create table t (a int unique,b int)", "insert into t values (1,0),(2,0),(null,0)",
            "create table u (a int references t(a) on delete cascade)", "insert into u values (1),(null)");
        refused(6, "update t set a=3 where a=1");
        refused(6, "update t set a=null where a=1");
        changed(1, "update t set a=3 where a=2");
        changed(1, "update t set a=4 where a is null");
        changed(3, "update t set b=1,a=a");
        db.ok("delete from u");
        changed(1, "update t set a=9 where a=1");
        fresh("create table s (a int unique,b int references s(a))", "insert into s values (1,null),(2,1)");
        refused(6, "update s set a=3 where a=1");
        changed(1, "update s set a=3 where a=2");
        changed(1, "update s set b=null where b=1");
        changed(1, "update s set a=4 where a=1");
    }

    /** delete, without cascade and set null: code 6 if there is a row with the value. */
    private static void restricted() {
        fresh("create table t (a int unique)", "insert into t values (1),(2),(null)", "create table u (a int references t(a))", "insert into u values (1),(null)");
        refused(6, "delete from t where a=1");
        refused(6, "delete from t");
        changed(1, "delete from t where a=2");
        changed(1, "delete from t where a is null");
        db.ok("delete from u");
        changed(1, "delete from t");
        changed(0, "delete from t");
        // Row by row: what refers to a row is looked for as soon as it is gone.
        fresh("create table s (a int unique,b int references s(a))", "insert into s values (1,1),(2,1)");
        refused(6, "delete from s");
        changed(1, "delete from s where a=2");
        changed(1, "delete from s");
    }

    /** For each table, by the numbers of definitions, for each of its columns, in order: the first one, and the last one. */
    private static void referencesOfAnyColumn() {
        for (int column = 0; column < 6; column++) {
            String[] names = {"a", "b", "c", "d", "e", "f"};
            for (String action : new String[] {"", " on delete cascade", " on delete set null"}) {
                StringBuilder columns = new StringBuilder();
                for (int i = 0; i < 6; i++) columns.append(i > 0 ? "," : "").append(names[i]).append(i == column ? " int references t(k)" + action : " int");
                // The table that references gets number 1, ahead of the other one, and then number 3, behind it.
                for (boolean ahead : new boolean[] {true, false}) {
                    fresh("create table x (a int)", "create table t (k int unique)", "insert into t values (7),(8),(9)");
                    if (ahead) db.ok("drop table x");
                    db.ok("create table u (" + columns + ")").ok("insert into u (" + names[column] + ") values (7),(null)").store.checkpoint();
                    refused(6, "insert into u (" + names[column] + ") values (6)");
                    refused(6, "update u set " + names[column] + "=6");
                    refused(6, "update t set k=1 where k=7");
                    refused(6, "update t set k=null");
                    refused(6, "drop table t");
                    changed(1, "update t set k=1 where k=9");
                    changed(1, "delete from t where k=8");
                    if (action.isEmpty()) refused(6, "delete from t where k=7");
                    else changed(2, "delete from t where k=7");
                    db.query(action.isEmpty() ? "2 1" : action.endsWith("null") ? "2 0" : "1 0", "select count(*),count(" + names[column] + ") from u");
                }
            }
        }
    }

    /** What stands ahead of a column in a record does not matter: texts, also empty ones, nulls and long ints. */
    private static void referencesBehindTexts() {
        String[] ahead = {"null,null", "'',''", "'',null", "null,''", "'x',''", "'aaaaaaaaaaaaaaaaaaaaaaaa','bbbbbbbbbbbbbbbbbbbbbbbb'", "'ab','c'"};
        for (String texts : ahead) {
            fresh("create table t (k int unique,s text unique)", "insert into t values (7,'seven'),(300,''),(null,'n')");
            db.ok("create table u (a text,b text,c int,k int references t(k),s text references t(s) on delete set null)");
            db.ok("insert into u values (" + texts + ",999999999999999999,300,'n'),(" + texts + ",null,null,'seven')").store.checkpoint();
            refused(6, "update t set k=1 where k=300");
            refused(6, "delete from t where k=300");
            refused(6, "update t set s='m' where s='n'");
            changed(1, "update t set k=301 where k=7");
            changed(2, "delete from t where k=301");
            changed(2, "delete from t where s='n'");
            db.query("300 null; null null", "select k,s from u");
            changed(1, "update t set s='x' where s=''");
            refused(6, "delete from t");
            db.ok("delete from u where k=300");
            changed(1, "delete from t");
        }
    }

    /** One that is not there any more is passed over: it puts nothing on the list. */
    private static void passedOver() {
        fresh("create table t (k int unique)", "insert into t values (1)",
            "create table u (a int unique,b int references t(k) on delete cascade,c int references t(k) on delete cascade)",
            "create table w (a int references u(a) on delete cascade)");
        for (int i = 0; i < 10; i++) db.ok("insert into u values (" + i + ",1,1)");
        for (int i = 0; i < 39; i++) db.ok("insert into w values (9)").store.checkpoint();
        // One row of t, ten of u, each twice, and those of w: sixty on the list.
        changed(50, "delete from t");
        db.ok("insert into t values (1)");
        for (int i = 0; i < 10; i++) db.ok("insert into u values (" + i + ",1,1)").store.checkpoint();
        for (int i = 0; i < 40; i++) db.ok("insert into w values (9)").store.checkpoint();
        refused(8, "delete from t");
    }

    /** With cascade they are put at the end of the list (also one that is on it already); one that is not there any more is passed over. */
    private static void cascades() {
        fresh("create table s (a int unique,b int references s(a) on delete cascade)", "insert into s values (1,null),(2,1),(3,2),(4,1),(5,5)");
        changed(4, "delete from s where a=1");
        rows("5 5", "s");
        changed(1, "delete from s");
        db.ok("insert into s values (1,null),(2,1),(3,1)");
        changed(3, "delete from s");
        db.ok("insert into s values (1,null),(2,1),(3,2)").ok("update s set b=3 where a=1");
        changed(3, "delete from s where a=2");
        fresh("create table t (a int unique)", "create table u (a int unique references t(a) on delete cascade,b int references t(a) on delete cascade)",
            "create table w (a int references u(a) on delete cascade)");
        db.ok("insert into t values (1),(2)").ok("insert into u values (1,1),(2,1)").ok("insert into w values (1),(2),(2),(null)");
        // Row 1 of u is put on the list twice, and taken out once.
        changed(6, "delete from t where a=1");
        rows("null", "w");
        rows("", "u");
    }

    /** No list gets longer than 60: that of rows to take out, with those that cascades put there. */
    private static void sixtyOnTheList() {
        fresh("create table t (a int unique)", "insert into t values (1)", "create table u (a int references t(a) on delete cascade)");
        for (int i = 0; i < 58; i += 8) db.ok("insert into u values " + "(1),".repeat(Math.min(7, 57 - i)) + "(1)").store.checkpoint();
        db.query("58", "select count(*) from u");
        db.ok("insert into u values (1)");
        changed(60, "delete from t");
        db.ok("insert into t values (1)");
        for (int i = 0; i < 60; i += 8) db.ok("insert into u values " + "(1),".repeat(Math.min(7, 59 - i)) + "(1)").store.checkpoint();
        db.query("60", "select count(*) from u");
        refused(8, "delete from t");
        Db.due("steps of code 8", 1500, db.store.steps());
        db.ok("begin").code(8, "delete from t");
        db.query("60", "select count(*) from u");
        db.ok("rollback");
        changed(60, "delete from u");
        changed(1, "delete from t");
    }

    /** With set null each is changed as by update, with null in this column. */
    private static void setNulls() {
        fresh("create table t (a int unique)", "insert into t values (1),(2),(null)", "create table u (a int references t(a) on delete set null,b int,unique(a,b))",
            "create index i on u(a)");
        db.ok("insert into u values (1,1),(2,1),(1,2),(null,1)");
        changed(3, "delete from t where a=1");
        rows("null 1; 2 1; null 2; null 1", "u");
        db.query("", "select b from u where a=1");
        db.query("1", "select b from u where a=2");
        changed(1, "delete from t where a is null");
        changed(2, "delete from t");
        rows("null 1; null 1; null 2; null 1", "u");
        // A row that references itself is gone by then.
        fresh("create table s (a int unique,b int references s(a) on delete set null)", "insert into s values (1,1),(2,1),(3,2)");
        changed(2, "delete from s where a=1");
        rows("2 null; 3 2", "s");
    }

    /** There may be any number of these. */
    private static void setNullOfAny() {
        fresh("create table t (a int unique)", "insert into t values (1)", "create table u (a int references t(a) on delete set null)");
        for (int i = 0; i < 20; i++) db.ok("insert into u values (1),(1),(1),(1),(1),(1),(1),(1)").store.checkpoint();
        changed(161, "delete from t");
        Db.due("steps", 1, db.store.steps());
        db.query("160", "select count(*) from u where a is null");
    }

    /** ... as by update: it is examined, and references to it count. */
    private static void setNullIsExamined() {
        fresh("create table t (a int unique)", "insert into t values (1),(2),(3)", "create table u (a int not null references t(a) on delete set null)",
            "create table w (a int unique references t(a) on delete set null,check(coalesce(a,0)<>0))",
            "create table x (a int references w(a))");
        db.ok("insert into u values (1)").ok("insert into w values (2)");
        refused(3, "delete from t where a=1");
        refused(5, "delete from t where a=2");
        changed(1, "delete from t where a=3");
        fresh("create table t (a int unique)", "insert into t values (1)", "create table w (a int unique references t(a) on delete set null)",
            "create table x (a int references w(a) on delete cascade)", "insert into w values (1)", "insert into x values (1)");
        refused(6, "delete from t");
        db.ok("delete from x");
        changed(2, "delete from t");
    }

    /** For each table, by numbers, for each of its columns, in order. */
    private static void circles() {
        // The table with the lower number comes first: its rows stand in the way, ahead of the cascade that would take them out.
        fresh("create table t (a int unique)", "create table u (a int unique,b int references t(a))", "create table w (a int references u(a) on delete cascade)");
        db.ok("drop table w").ok("drop table u").ok("create table w (a int unique,b int references t(a) on delete cascade)");
        db.ok("create table u (a int references t(a),b int references w(a) on delete cascade)").ok("insert into t values (1)").ok("insert into w values (1,1)");
        db.ok("insert into u values (null,1)");
        changed(3, "delete from t");
        db.ok("insert into t values (1)").ok("insert into w values (1,1)").ok("insert into u values (1,1)");
        refused(6, "delete from t");
        fresh("create table t (a int unique)", "create table u (a int references t(a) on delete set null,b int references t(a) on delete cascade)");
        db.ok("insert into t values (1)").ok("insert into u values (1,1)");
        // First set to null by the one column, then put on the list by the other.
        changed(3, "delete from t");
        rows("", "u");
    }

    /** Looking for rows by references, for unique values and for greatest numbers, and making an index, takes no steps. */
    private static void noSteps() {
        fresh("create table t (a int unique)", "create table u (a int references t(a) on delete cascade,b int references t(a) on delete set null)",
            "create table w (a int references t(a))");
        steps(0, "insert into t values (1),(2),(3),(4),(5)");
        steps(0, "insert into u values (1,1),(1,2),(2,2),(3,1)");
        steps(0, "insert or replace into t values (1)");
        steps(0, "insert or ignore into t values (1),(6)");
        steps(0, "create unique index i on u(a,b)");
        steps(6, "update t set a=a");
        steps(2, "update t set a=9 where a=6");
        steps(2, "delete from t where a=9");
        db.query("2 2; 3 null", "select * from u");
        // The index finds one entry; what cascades and is set to null takes no steps.
        steps(2, "delete from t where a=2");
        Db.due("a row is set to null, and taken out", 3, db.store.changed());
        steps(4, "delete from t where a+0=3 or a+0=7 or 0");
    }

    private static void steps(int want, String text) {
        db.ok(text);
        Db.due("steps of " + text, want, db.store.steps());
    }

    // ---- 9. Definitions

    private static String definitions() {
        StringBuilder b = new StringBuilder();
        int page = 1;
        int at = 4;
        for (int i = 0; i < db.store.pageByte(page, 1); i++) {
            if (db.store.pageByte(page, at + 3) == 0) b.append(b.length() > 0 ? " " : "").append(db.store.pageByte(page, at + 2));
            at += 2 + db.store.pageByte(page, at) + db.store.pageByte(page, at + 1);
        }
        return b.toString();
    }

    /** What is made gets the smallest number from 1 on that no other one has. */
    private static void numbersOfDefinitions() {
        fresh("create table a (a int)", "create table b (a int)", "create view c as select 1 as a");
        Db.due("numbers", "1 2 3", definitions());
        db.ok("drop table b");
        Db.due("one is free", "1 3", definitions());
        db.ok("create view d as select 1 as a");
        Db.due("the smallest one", "1 2 3", definitions());
        db.ok("drop table a").ok("drop view c");
        Db.due("two are free", "2", definitions());
        db.ok("create table e (a int)").ok("create index f on e(a)");
        Db.due("both", "1 2 3", definitions());
        Db.due("trees by numbers", 3, db.store.trees());
    }

    /** Its text is what the tape had from the first byte of the first token to the last byte of the last one; pieces of 60 bytes. */
    private static void textsOfDefinitions() {
        for (int length : new int[] {22, 59, 60, 61, 119, 120, 121, 180, 181, 799, 800}) {
            fresh();
            String text = "create table t (a int" + " ".repeat(length - 22) + ")";
            Db.due("length", length, text.length());
            db.ok(text);
            Db.due("pieces of " + length, 1 + (length + 59) / 60, db.store.entriesOf(0));
            changed(1, "insert into t values (1)");
            db.ok("drop table t");
            Db.due("no pieces", "0 1", db.store.entriesOf(0) + " " + db.store.levelsOf(0));
        }
        fresh();
        db.ok("\n  create view v\nas select 'a  b' as a \n ");
        StringBuilder b = new StringBuilder();
        int at = 4 + 2 + 2 + 1;
        for (int i = 0; i < db.store.pageByte(1, at + 1); i++) b.append((char) db.store.pageByte(1, at + 4 + i));
        Db.due("the text", "create view v\nas select 'a  b' as a", b.toString());
        db.query("'a  b'", "select a from v");
    }

    /** Of a table its own root, then that of each of its unique indices, in order: those of columns, then those of rules. */
    private static void mostIndices() {
        fresh("create table t (a int unique,b int unique,c int unique,d int unique,e int unique,f int unique,unique(a,b),unique(b,c,d),unique(f),unique(e,a))");
        Db.due("eleven trees of it", "12 12", db.store.trees() + " " + db.store.treePages());
        StringBuilder b = new StringBuilder();
        for (int i = 0; i < 12; i++) b.append(i > 0 ? " " : "").append(db.store.rootOf(i));
        Db.due("roots", "1 2 3 4 5 6 7 8 9 10 11 12", b.toString());
        for (int i = 0; i < 9; i++) db.ok("create index i" + i + " on t(a)").store.checkpoint();
        Db.due("twenty trees of it", 21, db.store.trees());
        changed(1, "insert into t values (1,2,3,4,5,6)");
        for (int i = 1; i < 21; i++) Db.due("entries of tree " + i, 1, db.store.entriesOf(i));
        refused(4, "insert into t values (7,7,7,7,7,6)");
        changed(2, "insert or replace into t values (1,2,3,4,5,6)");
        db.store.checkpoint();
        changed(1, "delete from t where a=1");
        for (int i = 1; i < 21; i++) Db.due("entries of tree " + i, 0, db.store.entriesOf(i));
        db.store.checkpoint();
        db.ok("drop table t");
        Db.due("all are freed", "1 2", db.store.trees() + " " + (db.store.pages() - db.store.freePages()));
    }

    /** create index: for each row of the table its cell is put in, with unique code 4 if another one has the same values, none null. */
    private static void indicesThatAreMade() {
        fresh("create table t (a int,b text)");
        changed(0, "create unique index e on t(a)");
        db.ok("drop index e").ok("insert into t values (1,'x'),(2,'x'),(1,'y'),(null,'x'),(null,'x'),(3,null),(3,null)");
        refused(4, "create unique index i on t(a)");
        refused(4, "create unique index i on t(b)");
        refused(4, "create unique index i on t(b)");
        changed(0, "create unique index i on t(b,a)");
        changed(0, "create index j on t(a)");
        Db.due("entries", "7 7 0", db.store.entriesOf(2) + " " + db.store.entriesOf(3) + " " + db.store.steps());
        refused(4, "insert into t values (1,'x')");
        changed(2, "insert or replace into t values (1,'x')");
        changed(0, "insert or ignore into t values (2,'x')");
        refused(4, "update t set a=2 where b='y' or a=2 and b='x' or b='x' and a=1");
        db.query("3; 3", "select a from t where a=3");
    }

    /** Each column of the table may be in an index that is made of its rows, whatever was made ahead of it. */
    private static void indicesOfAnyColumn() {
        for (String column : new String[] {"a", "b", "c", "d", "e", "f"}) {
            fresh("create table t (a int,b int,c int,d int,e int,f int)", "create table x (u int,v int,w int,x int,y int,z int)");
            db.ok("insert into t values (1,2,3,4,5,6),(11,12,13,14,15,16),(1,2,3,4,5,6)");
            refused(4, "create unique index i on t(" + column + ")");
            changed(0, "create index i on t(" + column + ")");
            int value = "abcdef".indexOf(column) + 1;
            db.query(value + "; " + value, "select " + column + " from t where " + column + "=" + value);
            Db.due("steps", 4, db.store.steps());
            db.query("" + (value + 10), "select " + column + " from t where " + column + ">" + value);
            db.ok("delete from t where " + column + "=" + value).ok("drop index i");
            changed(0, "create unique index i on t(" + column + (column.equals("f") ? ",a)" : ",f)"));
            Db.due("entries", 1, db.store.entriesOf(3));
        }
    }

    /** drop table: code 6, if another table has references to it; with it go its indices; what was made by unique has no name. */
    private static void drops() {
        fresh("create table t (a int unique)", "create table u (a int references t(a))", "create table s (a int unique,b int references s(a))");
        refused(6, "drop table t");
        changed(0, "drop table s");
        db.ok("create index i on t(a)").ok("create index j on t(a)");
        changed(0, "drop index i");
        Db.due("i can be made again", 0, db.sql("create index i on u(a)"));
        db.ok("drop table u");
        Db.due("i is gone with its table", 3, db.prepare(1, "drop index i"));
        changed(0, "drop table t");
        Db.due("j is gone", 3, db.prepare(1, "drop index j"));
        Db.due("nothing is left", "1 0 1", db.store.trees() + " " + db.store.entriesOf(0) + " " + db.store.treePages());
        db.ok("create table t (a int)").ok("create index j on t(a)").ok("create view i as select 1 as a");
        changed(0, "drop view i");
        changed(0, "drop index j");
        changed(0, "drop table t");
    }

    /** Views that tell of what was dropped stay; they are errors, where they are used, till it is there again. */
    private static void viewsOfWhatIsGone() {
        fresh("create table t (a int)", "create view v as select a from t", "create view w as select a from v", "insert into t values (5)");
        db.prepare(1, "select a from w");
        db.prepare(2, "insert into t select a from v");
        db.ok("drop table t");
        Db.due("code 12", "12 12", db.store.run(1) + " " + db.store.run(2));
        Db.due("an error", "3 3", db.prepare(3, "select 1 from v") + " " + db.prepare(3, "select 1 from w"));
        db.ok("create table t (b int)");
        Db.due("another table", "12 12", db.store.run(1) + " " + db.store.run(2));
        db.ok("drop table t").ok("create table t (b int,a int)").ok("insert into t values (1,6)");
        Db.due("it is there again", 0, db.store.run(1));
        Db.due("with its rows", "6", db.told());
        Db.due("two columns now", 12, db.store.run(2));
        db.ok("drop view v");
        Db.due("w without v", 12, db.store.run(1));
        db.ok("drop view w");
        Db.due("gone", 3, db.prepare(3, "drop view w"));
    }

    /** A statement that ends with another code than 0 changes nothing of the pages. */
    private static void codesChangeNothing() {
        fresh("create table t (a int unique,b text)", "insert into t values (1,'x'),(2,'y')", "create table u (a int references t(a))", "insert into u values (2)");
        db.ok("begin").ok("insert into t values (3,'z')");
        refused(4, "insert into t values (4,''),(5,''),(1,'')");
        refused(10, "update t set b=b||" + TEXT24);
        refused(6, "delete from t");
        refused(6, "drop table t");
        refused(4, "update t set a=a+1");
        refused(8, "insert into t select p.a+10,null from t p,t q,t r,t s");
        refused(6, "insert into u values (1),(9)");
        db.query("3", "select count(*) from t");
        db.ok("commit");
        db.query("1 'x'; 2 'y'; 3 'z'", "select * from t where a>0");
    }
}
