import java.util.ArrayList;
import java.util.List;
import java.util.Random;
import java.util.TreeMap;

/** Promises 28 to 37: pages and trees, byte by byte. */
public final class PageTest {
    private static Db db;

    public static void main(String[] args) {
        wrongInputs();
        atFirst();
        cellsOfTables();
        cellsOfIndices();
        definitions();
        splitsOfLeaves();
        joinsOfLeaves();
        edgesOfLeaves();
        freedTrees();
        fill();
        asTheClientSees();
        for (int seed = 1; seed <= 6; seed++) sound(seed);
        Db.end();
    }

    /** The bytes of a page from the beginning on, without the zeros at its end. */
    private static String page(int page) {
        int end = 256;
        while (end > 0 && db.store.pageByte(page, end - 1) == 0) end--;
        StringBuilder b = new StringBuilder();
        for (int i = 0; i < end; i++) b.append(i > 0 ? " " : "").append(db.store.pageByte(page, i));
        return b.toString();
    }

    private static String bytes(String text) {
        StringBuilder b = new StringBuilder();
        for (int i = 0; i < text.length(); i++) b.append(i > 0 ? " " : "").append((int) text.charAt(i));
        return b.toString();
    }

    private static void wrongInputs() {
        db = new Db();
        SqlStore s = db.store;
        int[][] outside = {{-1, 0}, {2, 0}, {0, -1}, {0, 256}, {1, 256}};
        for (int[] p : outside) Db.due("pageByte", "IndexOutOfBoundsException", () -> s.pageByte(p[0], p[1]));
        for (int tree : new int[] {-1, 1}) {
            Db.due("rootOf", "IndexOutOfBoundsException", () -> s.rootOf(tree));
            Db.due("levelsOf", "IndexOutOfBoundsException", () -> s.levelsOf(tree));
            Db.due("entriesOf", "IndexOutOfBoundsException", () -> s.entriesOf(tree));
        }
        s.crash(0, 0);
        Db.due("pages, closed", "IllegalStateException", s::pages);
        Db.due("freePages, closed", "IllegalStateException", s::freePages);
        Db.due("treePages, closed", "IllegalStateException", s::treePages);
        Db.due("pageByte, closed", "IllegalStateException", () -> s.pageByte(9, 0));
        Db.due("trees, closed", "IllegalStateException", s::trees);
        Db.due("rootOf, closed", "IllegalStateException", () -> s.rootOf(-1));
        Db.due("levelsOf, closed", "IllegalStateException", () -> s.levelsOf(-1));
        Db.due("entriesOf, closed", "IllegalStateException", () -> s.entriesOf(-1));
        Db.due("meanFill, closed", "IllegalStateException", s::meanFill);
        Db.due("framesDue, closed", "IllegalStateException", s::framesDue);
    }

    private static void atFirst() {
        db = new Db();
        Db.due("pages", "2 0 1 1", db.store.pages() + " " + db.store.freePages() + " " + db.store.treePages() + " " + db.store.trees());
        Db.due("head", "7 2", page(0));
        Db.due("definitions", "1", page(1));
        Db.due("tree", "1 1 0", db.store.rootOf(0) + " " + db.store.levelsOf(0) + " " + db.store.entriesOf(0));
        Db.due("meanFill", 0.0, db.store.meanFill());
        Db.due("framesDue", 0, db.store.framesDue());
    }

    private static void cellsOfTables() {
        db = new Db();
        db.ok("create table t (a int,b text)");
        db.ok("insert into t values (null,null),(0,''),(127,'x'),(128,'ab'),(-128,''),(-129,'')");
        Db.due("records", "1 6 0 0 2 2 0 1 0 0 2 3 0 2 1 0 16 2 4 0 3 1 127 17 120 2 6 0 4 2 0 128 18 97 98"
            + " 2 3 0 5 1 128 16 2 4 0 6 2 255 127 16", page(2));
        db.ok("delete from t");
        Db.due("an empty leaf", "1", page(2));
        db.prepare(1, "insert into t values (?,'z')");
        db.store.bindNumber(1, 0, Long.MIN_VALUE);
        db.store.run(1);
        db.store.bindNumber(1, 0, 0x0102030405060708L);
        db.store.run(1);
        db.store.bindNumber(1, 0, 8388607);
        db.store.run(1);
        db.store.bindNumber(1, 0, 8388608);
        db.store.run(1);
        Db.due("long ints", "1 4 0 0 2 11 0 1 8 128 0 0 0 0 0 0 0 17 122 2 11 0 2 8 1 2 3 4 5 6 7 8 17 122"
            + " 2 6 0 3 3 127 255 255 17 122 2 7 0 4 4 0 128 0 0 17 122", page(2));
        db.ok("update t set a=1 where a<0");
        db.ok("delete from t where a>1");
        Db.due("changed in its place", "1 1 0 0 2 4 0 1 1 1 17 122", page(2));
    }

    private static void cellsOfIndices() {
        db = new Db();
        db.ok("create table t (a int,b text)").ok("create index i on t(b,a)");
        db.ok("insert into t values (5,'x'),(-1,'x'),(null,null),(1,'xy'),(5,'x')");
        Db.due("keys", "1 5 0 0 4 0 0 0 0 3"
            + " 14 0 2 120 0 1 127 255 255 255 255 255 255 255 0 2"
            + " 14 0 2 120 0 1 128 0 0 0 0 0 0 5 0 1"
            + " 14 0 2 120 0 1 128 0 0 0 0 0 0 5 0 5"
            + " 15 0 2 120 121 0 1 128 0 0 0 0 0 0 1 0 4", page(3));
        db.ok("delete from t where b='x' and a=5");
        Db.due("keys that stay", "1 3 0 0 4 0 0 0 0 3"
            + " 14 0 2 120 0 1 127 255 255 255 255 255 255 255 0 2"
            + " 15 0 2 120 121 0 1 128 0 0 0 0 0 0 1 0 4", page(3));
        Db.due("entries", "3 3", db.store.entriesOf(1) + " " + db.store.entriesOf(2));
    }

    private static void definitions() {
        db = new Db();
        String table = "create  table t (a int unique,b text,unique(b,a))";
        db.ok("  " + table + "  ");
        Db.due("a table", "1 2 0 0 2 4 1 0 1 2 3 4 2 " + table.length() + " 1 1 " + bytes(table), page(1));
        Db.due("roots", "4 1 2 3 4", db.store.trees() + " " + db.store.rootOf(0) + " " + db.store.rootOf(1) + " " + db.store.rootOf(2)
            + " " + db.store.rootOf(3));
        db.ok("drop table t");
        Db.due("dropped", "1", page(1));
        Db.due("pages freed in order", "7 5 4", page(0));
        Db.due("chain of free pages", "0 0 3;0 0 2;", page(4) + ";" + page(3) + ";" + page(2));
        Db.due("free", 3, db.store.freePages());
        String view = "create view v as select 1 as a";
        db.ok(view);
        Db.due("a view", "1 2 0 0 2 1 1 0 3 2 " + view.length() + " 1 1 " + bytes(view), page(1));
        Db.due("a view has no tree", 1, db.store.trees());
        db.ok("create table t (a int)");
        Db.due("a root of the free pages", 4, db.store.rootOf(1));
        String index = "create index i on t(a)";
        db.ok("drop view v").ok(index);
        Db.due("an index takes the number that is free", "1 4 0 0 2 2 1 0 2 3 2 " + index.length() + " 1 1 " + bytes(index),
            page(1).substring(0, ("1 4 0 0 2 2 1 0 2 3 2 " + index.length() + " 1 1 " + bytes(index)).length()));
        Db.due("trees by numbers", "3 3 4", db.store.trees() + " " + db.store.rootOf(1) + " " + db.store.rootOf(2));
        // A text has pieces of 60 bytes.
        db = new Db();
        String longer = "create table t (a int" + " ".repeat(98) + ")";
        db.ok(longer);
        Db.due("a text of 120 bytes", "1 3 0 0 2 2 1 0 1 2 2 60 1 1 " + bytes(longer.substring(0, 60)) + " 2 60 1 2 "
            + bytes(longer.substring(60)), page(1));
        db.ok("drop table t").ok("create table t (a int" + " ".repeat(99) + ")");
        Db.due("a text of 121 bytes", 4, db.store.entriesOf(0));
    }

    /** Puts in rows whose cells have 31 bytes each, with numbers behind those that are there. */
    private static void addRows(int count) {
        for (int i = 0; i < count; i++) {
            db.ok("insert into t values ('abcdefghijklmnopqrstuvwx',(select count(*) from t)+1)").store.checkpoint();
        }
    }

    private static void splitsOfLeaves() {
        db = new Db();
        // 8 cells have 248 bytes.
        db.ok("create table t (a text,b int)");
        addRows(8);
        Db.due("a full leaf", "1 8 1", db.store.levelsOf(1) + " " + db.store.entriesOf(1) + " " + db.store.pageByte(2, 0));
        addRows(1);
        // 279 bytes: five cells are at least half; they go to the left, the others to the right.
        Db.due("split", "2 9 3", db.store.levelsOf(1) + " " + db.store.entriesOf(1) + " " + (db.store.treePages() - 1));
        Db.due("the root", "2 1 3 0 2 4 0 6", page(2));
        Db.due("left and right", "5 4", db.store.pageByte(3, 1) + " " + db.store.pageByte(4, 1));
        addRows(5);
        // The right one is split: it keeps the left part, a new page is taken for the right one.
        Db.due("another split", "2 2 3 0 2 4 0 6 2 5 0 11", page(2));
        Db.due("three leaves", "5 5 4", db.store.pageByte(3, 1) + " " + db.store.pageByte(4, 1) + " " + db.store.pageByte(5, 1));
        Db.due("pages", "6 0", db.store.pages() + " " + db.store.freePages());
        db.query("14", "select count(*) from t where a like 'a%x'");
    }

    private static void joinsOfLeaves() {
        db = new Db();
        db.ok("create table t (a text,b int)");
        addRows(14);
        // Rows 6 and 7 go out of the middle leaf: it has 3 cells, 93 bytes, the next one 4, 124: together 217.
        db.ok("delete from t where b in (6,7)");
        Db.due("not joined", "2 2 3 0 2 4 0 6 2 5 0 11", page(2));
        db.ok("update t set b=b where b=8");
        Db.due("a record that is the same stays where it is", "2 2 3 0 2 4 0 6 2 5 0 11", page(2));
        db.ok("delete from t where b=8");
        // 62 + 124 are at most 200: the next one is joined to it, and freed.
        Db.due("joined with the next one", "2 1 3 0 2 4 0 6", page(2));
        Db.due("freed", " 5", page(5) + " " + db.store.pageByte(0, 2));
        Db.due("cells", "5 6", db.store.pageByte(3, 1) + " " + db.store.pageByte(4, 1));
        db.ok("delete from t where b>=9 and b<14");
        // The last one has no next one: it is joined with the one ahead, and the root takes the only child over.
        Db.due("joined with the one ahead", "1 6", db.store.levelsOf(1) + " " + db.store.entriesOf(1));
        Db.due("the root is a leaf", 1, db.store.pageByte(2, 0));
        Db.due("free pages", "3 4 5", db.store.pageByte(0, 2) + " " + db.store.pageByte(3, 2) + " " + db.store.pageByte(4, 2));
        db.ok("create table u (a int)");
        Db.due("the page that was freed last is taken", 3, db.store.rootOf(2));
    }

    /** Puts in rows with texts of these lengths, which begin with a, b, c and so on. A cell has 5 bytes more. */
    private static void addTexts(int... lengths) {
        for (int i = 0; i < lengths.length; i++) {
            String text = "abcdefghijklmnopqrstuvwxyz".substring(i, i + 1) + "x".repeat(lengths[i] - 1);
            db.ok("insert into t values ('" + text + "')").store.checkpoint();
        }
    }

    private static void edgesOfLeaves() {
        // Cells of 28, nine times: 252, just as many as go into a page.
        db = new Db();
        db.ok("create table t (a text)");
        addTexts(23, 23, 23, 23, 23, 23, 23, 23, 23);
        Db.due("252 bytes", "1 9", db.store.pageByte(2, 0) + " " + db.store.pageByte(2, 1));
        // 280 bytes with one more: five cells are just half of them.
        addTexts(23);
        Db.due("just half", "5 5", db.store.pageByte(3, 1) + " " + db.store.pageByte(4, 1));
        // 253 bytes.
        db = new Db();
        db.ok("create table t (a text)");
        addTexts(23, 23, 23, 23, 23, 23, 23, 23, 24);
        Db.due("253 bytes", "2 5 4", db.store.pageByte(2, 0) + " " + db.store.pageByte(3, 1) + " " + db.store.pageByte(4, 1));
        // Leaves of 142 bytes each; without three cells of 28 they have just 200 together.
        db = new Db();
        db.ok("create table t (a text)");
        addTexts(23, 23, 23, 24, 24, 24, 23, 23, 23, 24);
        Db.due("two leaves", "2 5 5", db.store.pageByte(2, 0) + " " + db.store.pageByte(3, 1) + " " + db.store.pageByte(4, 1));
        db.ok("delete from t where a<'d'");
        Db.due("200 bytes are joined", "1 7", db.store.pageByte(2, 0) + " " + db.store.pageByte(2, 1));
        db = new Db();
        db.ok("create table t (a text)");
        addTexts(23, 23, 23, 24, 24, 24, 24, 23, 23, 24);
        db.ok("delete from t where a<'d'");
        Db.due("201 bytes are not", "2 2 5", db.store.pageByte(2, 0) + " " + db.store.pageByte(3, 1) + " " + db.store.pageByte(4, 1));
        // A leaf without cells is joined, however much the other one has.
        addTexts(23, 23, 23);
        db.ok("delete from t where a>='d' and a<'e'");
        Db.due("one cell and 227 bytes", "2 1 8", db.store.pageByte(2, 0) + " " + db.store.pageByte(3, 1) + " " + db.store.pageByte(4, 1));
        db.ok("delete from t where a>='e' and a<'f'");
        Db.due("no cell and 227 bytes", "1 8", db.store.pageByte(2, 0) + " " + db.store.pageByte(2, 1));
    }

    private static void freedTrees() {
        db = new Db();
        db.ok("create table t (a text,b int)");
        addRows(14);
        db.ok("create index i on t(b)");
        Db.due("a root and three leaves, and an index", "2 6 3 6", db.store.levelsOf(1) + " " + db.store.treePages() + " " + db.store.trees()
            + " " + db.store.rootOf(2));
        db.ok("drop table t");
        // The root is freed first, then its children in order, then the tree of the index.
        Db.due("free pages", "6 5 4 3 2 0", db.store.pageByte(0, 2) + " " + db.store.pageByte(6, 2) + " " + db.store.pageByte(5, 2) + " "
            + db.store.pageByte(4, 2) + " " + db.store.pageByte(3, 2) + " " + db.store.pageByte(2, 2));
        Db.due("five free pages", 5, db.store.freePages());
    }

    private static void fill() {
        db = new Db();
        db.ok("create table t (a int)").ok("insert into t values (1),(2)");
        int text = "create table t (a int)".length();
        int load = 2 + 2 + 2 + (2 + 2 + text) + 2 * (2 + 2 + 2);
        Db.due("meanFill of two leaves", load / (252.0 * 2), db.store.meanFill());
    }

    private static void asTheClientSees() {
        db = new Db();
        db.ok("create table t (a int)").ok("begin").ok("create table u (a int)").ok("insert into t values (1)");
        Db.due("the writer", "4 3 1 4", db.store.pages() + " " + db.store.trees() + " " + db.store.entriesOf(1) + " " + db.store.framesDue());
        db.store.use(1);
        Db.due("another one", "3 2 0 0", db.store.pages() + " " + db.store.trees() + " " + db.store.entriesOf(1) + " " + db.store.framesDue());
        Db.due("no such page for it", "IndexOutOfBoundsException", () -> db.store.pageByte(3, 0));
        db.store.use(0);
        db.ok("delete from t");
        Db.due("a page that is as it was", 3, db.store.framesDue());
        db.ok("rollback");
        Db.due("forgotten", "3 0", db.store.pages() + " " + db.store.framesDue());
    }

    // ---- whatever is put in and taken out, the trees are sound

    private static void sound(int seed) {
        Random random = new Random(seed);
        db = new Db();
        db.ok("create table t (k int unique,a text,b int)").ok("create index i on t(a)").ok("create index j on t(a,b,k)");
        TreeMap<Integer, String> rows = new TreeMap<>();
        for (int i = 0; i < 250; i++) {
            boolean grow = (i / 60) % 2 == 0 ? random.nextInt(4) > 0 : random.nextInt(4) == 0;
            int k = random.nextInt(150);
            if (grow) {
                String text = "abcdefghijklmnopqrstuvwx".substring(random.nextInt(20));
                int code = db.sql("insert or ignore into t values (" + k + ",'" + text + "'," + random.nextInt(1000) + ")");
                if (code == 0 && db.store.changed() == 1) rows.put(k, text);
            } else if (!rows.isEmpty()) {
                int least = rows.higherKey(k) == null ? rows.firstKey() : rows.higherKey(k);
                db.ok("delete from t where k=" + least);
                rows.remove(least);
            }
            db.store.checkpoint();
            if (i % 10 == 0) checkTrees(rows.size());
        }
        for (int k : rows.keySet()) db.query("'" + rows.get(k) + "'", "select a from t where k=" + k);
    }

    private static void checkTrees(int rows) {
        int pages = 0;
        for (int tree = 0; tree < db.store.trees(); tree++) {
            List<byte[]> keys = new ArrayList<>();
            pages += walk(db.store.rootOf(tree), db.store.levelsOf(tree), keys);
            Db.due("entries of tree " + tree, keys.size(), db.store.entriesOf(tree));
            if (tree > 0) Db.due("rows in tree " + tree, rows, keys.size());
            for (int i = 1; i < keys.size(); i++) {
                if (java.util.Arrays.compareUnsigned(keys.get(i - 1), keys.get(i)) >= 0) Db.due("order in tree " + tree, "", "wrong");
            }
        }
        Db.due("pages of trees", pages, db.store.treePages());
        Db.due("all pages", db.store.pages(), 1 + pages + db.store.freePages());
    }

    private static int walk(int page, int levels, List<byte[]> keys) {
        boolean leaf = db.store.pageByte(page, 0) == 1;
        Db.due("levels", leaf, levels == 1);
        int pages = 1;
        if (!leaf) pages += walk(db.store.pageByte(page, 2), levels - 1, keys);
        int at = 4;
        for (int i = 0; i < db.store.pageByte(page, 1); i++) {
            int length = db.store.pageByte(page, at);
            byte[] key = new byte[length];
            for (int k = 0; k < length; k++) key[k] = (byte) db.store.pageByte(page, at + 2 + k);
            if (leaf) keys.add(key);
            else pages += walk(db.store.pageByte(page, at + 1), levels - 1, keys);
            at += 2 + length + (leaf ? db.store.pageByte(page, at + 1) : 0);
        }
        for (; at < 256; at++) {
            if (db.store.pageByte(page, at) != 0) Db.due("behind the cells of page " + page, 0, db.store.pageByte(page, at));
        }
        return pages;
    }
}
