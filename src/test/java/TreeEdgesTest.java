/** Promises 28 to 37: the edges that the document names of pages and trees. */
public final class TreeEdgesTest {
    private static Db db;

    public static void main(String[] args) {
        atFirst();
        emptyLeaves();
        pagesThatAreTaken();
        pagesThatAreFreed();
        sixtyPages();
        fullLeaf();
        halfOfALeaf();
        splitInTheMiddle();
        fullInnerPage();
        halfOfAnInnerPage();
        lookingForKeys();
        leavesOf200();
        leafWithoutCells();
        neighbours();
        innerPagesOf200();
        innerPagesOf201();
        innerPagesFromBehind();
        innerPageWithoutCells();
        rootsThatTakeOver();
        freedTrees();
        loads();
        keysOfInts();
        keysOfTexts();
        records();
        treesInOrder();
        asEachClientSees();
        eachAnswerAlone();
        framesThatAreDue();
        Db.end();
    }

    private static void fresh(String... texts) {
        db = new Db();
        for (String t : texts) db.ok(t).store.checkpoint();
    }

    /** The bytes of a page from the beginning on, without the zeros at its end. */
    private static String page(int page) {
        int end = 256;
        while (end > 0 && db.store.pageByte(page, end - 1) == 0) end--;
        StringBuilder b = new StringBuilder();
        for (int i = 0; i < end; i++) b.append(i > 0 ? " " : "").append(db.store.pageByte(page, i));
        return b.toString();
    }

    /** How many cells each leaf of a tree has, with brackets for each inner page. */
    private static String shape(int tree) {
        return shapeOf(db.store.rootOf(tree));
    }

    private static String shapeOf(int page) {
        int cells = db.store.pageByte(page, 1);
        if (db.store.pageByte(page, 0) == 1) return "" + cells;
        StringBuilder b = new StringBuilder("[").append(shapeOf(db.store.pageByte(page, 2)));
        int at = 4;
        for (int i = 0; i < cells; i++) {
            b.append(' ').append(shapeOf(db.store.pageByte(page, at + 1)));
            at += 2 + db.store.pageByte(page, at);
        }
        return b.append(']').toString();
    }

    /** How many bytes the cells of an inner page have. */
    private static int load(int page) {
        int at = 4;
        for (int i = 0; i < db.store.pageByte(page, 1); i++) at += 2 + db.store.pageByte(page, at);
        return at - 4;
    }

    /** The pages of the trees, those that are free and the head are all pages; behind the cells of a page all is 0. */
    private static void sound() {
        Db.due("all pages", db.store.pages(), 1 + db.store.treePages() + db.store.freePages());
        int n = 0;
        for (int page = db.store.pageByte(0, 2); page > 0 && n < 60; page = db.store.pageByte(page, 2)) {
            for (int i = 0; i < 256; i++) {
                if (i != 2 && db.store.pageByte(page, i) != 0) Db.due("byte " + i + " of the free page " + page, 0, db.store.pageByte(page, i));
            }
            n++;
        }
        Db.due("free pages", n, db.store.freePages());
    }

    // ---- pages

    /** Page 0 is the head: byte 0 is 7, byte 1 how many pages there are, byte 2 the first free page; at first there are 0 and 1. */
    private static void atFirst() {
        fresh();
        Db.due("the head", "7 2", page(0));
        Db.due("an empty leaf", "1", page(1));
        Db.due("pages", "2 0 1 1", db.store.pages() + " " + db.store.freePages() + " " + db.store.treePages() + " " + db.store.trees());
        Db.due("the tree of definitions", "1 1 0", db.store.rootOf(0) + " " + db.store.levelsOf(0) + " " + db.store.entriesOf(0));
    }

    /** An empty leaf has 1 in byte 0, and 0 everywhere else. */
    private static void emptyLeaves() {
        fresh("create table t (a int,b text)");
        Db.due("made", "1", page(2));
        db.ok("insert into t values (1,'x'),(2,'y')").ok("delete from t where a=1");
        Db.due("a cell", "1 1 0 0 2 4 0 2 1 2 17 121", page(2));
        db.ok("delete from t");
        Db.due("emptied", "1", page(2));
        db.ok("delete from t");
        Db.due("still empty", "1 0", page(2) + " " + db.store.entriesOf(1));
        Db.due("meanFill of one full and one empty", 0.0, meanFillWithout());
    }

    private static double meanFillWithout() {
        db.ok("drop table t");
        return db.store.meanFill();
    }

    /** A page is taken: the first free one; without one, the page whose number is byte 1 of the head, which becomes 1 more. */
    private static void pagesThatAreTaken() {
        fresh("create table a (a int)", "create table b (a int)", "create table c (a int)");
        Db.due("taken in order", "2 3 4 7 5", db.store.rootOf(1) + " " + db.store.rootOf(2) + " " + db.store.rootOf(3) + " " + page(0));
        db.ok("drop table a").ok("drop table c");
        Db.due("the one that was freed last is the first", "7 5 4", page(0));
        Db.due("the chain", "0 0 2;", page(4) + ";" + page(2));
        Db.due("how many", "5 2", db.store.pages() + " " + db.store.freePages());
        db.ok("create table d (a int)");
        Db.due("the first free one", "4 7 5 2 5 1", db.store.rootOf(1) + " " + page(0) + " " + db.store.pages() + " " + db.store.freePages());
        db.ok("create table e (a int unique)");
        Db.due("the last free one, then a new one", "2 5 7 6", db.store.rootOf(3) + " " + db.store.rootOf(4) + " " + page(0));
        sound();
    }

    /** A page is freed: its bytes become 0, but byte 2, which becomes byte 2 of the head, and this becomes its number. */
    private static void pagesThatAreFreed() {
        fresh("create table a (a int,b text unique)", "insert into a values (1,'x'),(2,'y')");
        Db.due("pages with cells", true, page(2).length() > 1 && page(3).length() > 1);
        db.ok("drop table a");
        Db.due("freed", "7 4 3;;0 0 2;1", page(0) + ";" + page(2) + ";" + page(3) + ";" + page(1));
        sound();
    }

    /** There are at most 60 pages; code 9 if there are 60 already. */
    private static void sixtyPages() {
        fresh("create table t (a text)");
        // Leaves of five cells of 29 bytes, 57 of them, and the last one has room for eight.
        for (int i = 1; i <= 5 * 56 + 3; i++) add(i, 24);
        Db.due("one page less", "59 0", db.store.pages() + " " + db.store.freePages());
        add(284, 24);
        Db.due("60 pages", "60 0 60 59", db.store.pages() + " " + db.store.freePages() + " " + db.store.pageByte(0, 1) + " " + db.store.treePages());
        for (int i = 285; i <= 288; i++) add(i, 24);
        db.code(9, "insert into t values ('" + text(289, 24) + "')");
        Db.due("what is told", "9 0 0", db.store.code() + " " + db.store.changed() + " " + db.store.logBytes());
        db.code(9, "create table u (a int)");
        db.code(9, "create index i on t(a)");
        Db.due("a view takes no page", 0, db.sql("create view v as select 1 as a"));
        db.ok("drop view v").store.checkpoint();
        db.code(9, "create table u (a int unique)");
        db.code(9, "insert or ignore into t values ('" + text(289, 24) + "')");
        Db.due("288 rows", "288 60", db.store.entriesOf(1) + " " + db.store.pages());
        db.query("288", "select count(*) from t");
        // In a transaction the code leaves what was changed ahead of it.
        db.ok("begin").ok("update t set a='z' where a='" + text(1, 24) + "'").code(9, "insert into t values ('" + text(289, 24) + "')");
        db.query("1", "select count(*) from t where a='z'");
        db.ok("rollback");
        // A page that is freed is taken again.
        for (int i = 1; i <= 4; i++) takeOut(i, 24);
        Db.due("one is free", "60 1", db.store.pages() + " " + db.store.freePages());
        add(289, 24);
        Db.due("none is free", "60 0", db.store.pages() + " " + db.store.freePages());
        for (int i = 290; i <= 293; i++) add(i, 24);
        db.code(9, "insert into t values ('" + text(294, 24) + "')");
        sound();
        db.ok("delete from t where a<'050'").store.checkpoint();
        db.ok("create table u (a int unique)").store.checkpoint();
        Db.due("of the free ones", 60, db.store.pages());
        sound();
    }

    // ---- putting in

    /** Texts in their order, of these lengths each; a row of the table takes 5 bytes more than its text. */
    private static String text(int number, int length) {
        String digits = "" + (1000 + number);
        return (digits.substring(1) + "x".repeat(24)).substring(0, length);
    }

    private static void add(int number, int length) {
        db.ok("insert into t values ('" + text(number, length) + "')").store.checkpoint();
    }

    private static void addAll(int... lengths) {
        for (int i = 0; i < lengths.length; i++) add(i + 1, lengths[i]);
    }

    private static void takeOut(int number, int length) {
        db.ok("delete from t where a='" + text(number, length) + "'").store.checkpoint();
    }

    /** A page whose load were more than 252 by this is split. */
    private static void fullLeaf() {
        fresh("create table t (a text)");
        addAll(23, 23, 23, 23, 23, 23, 23, 23, 23);
        Db.due("252 bytes", "9 1 3", shape(1) + " " + db.store.levelsOf(1) + " " + db.store.pages());
        Db.due("the last byte", (int) 'x', db.store.pageByte(2, 255));
        add(10, 3);
        Db.due("more", "[5 5] 2 5", shape(1) + " " + db.store.levelsOf(1) + " " + db.store.pages());
        fresh("create table t (a text)");
        addAll(23, 23, 23, 23, 23, 23, 23, 23, 24);
        Db.due("253 bytes", "[5 4]", shape(1));
        fresh("create table t (a text)");
        addAll(23, 23, 23, 23, 23, 23, 23, 23, 22);
        Db.due("251 bytes", "9", shape(1));
        // The root keeps its page; a page is taken for the left part, then one for the right.
        fresh("create table t (a text)");
        addAll(24, 24, 24, 24, 24, 24, 24, 24, 24);
        Db.due("the root", "2 1 3 0 2 4 0 6", page(2));
        Db.due("left and right", "5 1 4 6", db.store.pageByte(3, 1) + " " + db.store.pageByte(3, 7) + " " + db.store.pageByte(4, 1) + " "
            + db.store.pageByte(4, 7));
    }

    /** The first cells stay together, as few as have at least half of the bytes of all cells. */
    private static void halfOfALeaf() {
        // 280 bytes: five have just half.
        fresh("create table t (a text)");
        addAll(23, 23, 23, 23, 23, 23, 23, 23, 23, 23);
        Db.due("just half", "[5 5]", shape(1));
        // The first five have one byte less than half.
        fresh("create table t (a text)");
        addAll(23, 23, 23, 23, 22, 23, 23, 23, 23, 24);
        Db.due("one byte less", "[6 4]", shape(1));
        fresh("create table t (a text)");
        addAll(24, 23, 23, 23, 23, 23, 23, 23, 23, 22);
        Db.due("one byte more", "[5 5]", shape(1));
        fresh("create table t (a text)");
        addAll(3, 3, 3, 3, 3, 3, 3, 3, 24, 24, 24, 24, 24, 24, 24);
        Db.due("short ones first", "[11 4]", shape(1));
    }

    /** If the page that is split is not the root, it keeps the left part, and a page is taken for the right one. */
    private static void splitInTheMiddle() {
        fresh("create table t (a text)", "create index i on t(a)");
        for (int i = 1; i <= 9; i++) add(10 * i, 24);
        Db.due("two leaves of the index", "[5 4]", shape(2));
        int left = db.store.pageByte(3, 2);
        for (int i = 1; i <= 4; i++) add(10 + i, 24);
        Db.due("the left one is split", "[5 4 4]", shape(2));
        Db.due("it keeps the left part", left, db.store.pageByte(3, 2));
        // The cells of the parent stand by their keys: the new one ahead of the old one.
        Db.due("keys of the root", (int) '0' + " " + (int) '2' + " " + (int) '0', db.store.pageByte(3, 7) + " " + db.store.pageByte(3, 8) + " "
            + db.store.pageByte(3, 9));
        sound();
    }

    /** An inner page, too: cells of 30 bytes, the ninth one shorter. */
    private static void fullInnerPage() {
        fresh("create table t (a text)", "create index i on t(a)");
        for (int i = 1; i <= 50; i++) add(i, i == 46 ? 6 : 24);
        Db.due("252 bytes", "2 9 252", db.store.levelsOf(2) + " " + db.store.pageByte(3, 1) + " " + load(3));
        Db.due("shape", "[5 5 5 5 5 5 5 5 5 5]", shape(2));
        sound();
        fresh("create table t (a text)", "create index i on t(a)");
        for (int i = 1; i <= 48; i++) add(i, i == 46 ? 7 : 24);
        Db.due("eight cells", "2 8 240", db.store.levelsOf(2) + " " + db.store.pageByte(3, 1) + " " + load(3));
        int pages = db.store.pages();
        add(49, 24);
        // Half of 253 is reached by the fifth cell, which goes up; its child is the first child of the right page.
        Db.due("253 bytes", "3 [[5 5 5 5 5] [5 5 5 5 4]]", db.store.levelsOf(2) + " " + shape(2));
        Db.due("the key between", "1 30 " + (int) '0' + " " + (int) '2' + " " + (int) '6',
            db.store.pageByte(3, 1) + " " + load(3) + " " + db.store.pageByte(3, 7) + " " + db.store.pageByte(3, 8) + " " + db.store.pageByte(3, 9));
        // A leaf for the right part first, then the left part of the root, then its right one.
        Db.due("pages", pages + 3, db.store.pages());
        Db.due("left and right", (pages + 1) + " " + (pages + 2), db.store.pageByte(3, 2) + " " + db.store.pageByte(3, 5));
        Db.due("loads", "120 103", load(pages + 1) + " " + load(pages + 2));
        sound();
    }

    /** Its cells are counted from the first one on, till they have at least half of the bytes of all; the last one counted goes up. */
    private static void halfOfAnInnerPage() {
        fresh("create table t (a text)", "create index i on t(a)");
        for (int i = 1; i <= 55; i++) add(i, i == 51 ? 4 : i < 30 && i % 5 == 1 && i > 1 ? 20 : 24);
        // Five of 26, four of 30 and one of 10: the first five have just half.
        Db.due("just half", "[[5 5 5 5 5] [5 5 5 5 5 5]]", shape(2));
        Db.due("the key between", 26, load(3));
        Db.due("loads", "104 130", load(db.store.pageByte(3, 2)) + " " + load(db.store.pageByte(3, 5)));
        sound();
    }

    /** Looking for a key: to the child of the last cell whose key is not greater than it, to the first child if there is none. */
    private static void lookingForKeys() {
        fresh("create table t (a text unique)");
        for (int i = 1; i <= 60; i++) add(2 * i, 24);
        Db.due("levels", 3, db.store.levelsOf(2));
        for (int i = 1; i <= 60; i++) {
            db.query("'" + text(2 * i, 24) + "'", "select a from t where a='" + text(2 * i, 24) + "'");
            db.query("", "select a from t where a='" + text(2 * i + 1, 24) + "'");
        }
        db.query("", "select a from t where a<'002'");
        db.query("", "select a from t where a>'121'");
        db.query("1", "select count(*) from t where a>='120'");
        db.query("59", "select count(*) from t where a>'003'");
        db.code(4, "insert into t values ('" + text(12, 24) + "')");
    }

    // ---- taking out

    /** Leaves are joined, if their loads together are at most 200. */
    private static void leavesOf200() {
        int[][] lengths = {{23, 23, 23, 24, 24, 24, 23, 23, 23, 24}, {23, 23, 23, 24, 24, 24, 24, 23, 23, 24}, {23, 23, 23, 24, 24, 24, 23, 23, 23, 23}};
        String[] behind = {"7", "[2 5]", "7"};
        for (int k = 0; k < 3; k++) {
            fresh("create table t (a text)");
            addAll(lengths[k]);
            Db.due("two leaves", "[5 5]", shape(1));
            for (int i = 1; i <= 2; i++) takeOut(i, lengths[k][i - 1]);
            Db.due("227 to 229 bytes", "[3 5]", shape(1));
            takeOut(3, 23);
            Db.due("199 to 201 bytes", behind[k], shape(1));
            sound();
        }
    }

    /** ... or if one of them has no cells. */
    private static void leafWithoutCells() {
        fresh("create table t (a text)");
        for (int i = 1; i <= 9; i++) add(i, 24);
        Db.due("two leaves", "[5 4]", shape(1));
        for (int i = 10; i <= 13; i++) add(i, 24);
        Db.due("a full one on the right", "[5 8]", shape(1));
        for (int i = 1; i <= 4; i++) takeOut(i, 24);
        Db.due("one cell, and 232 bytes", "[1 8]", shape(1));
        takeOut(5, 24);
        Db.due("no cell", "8", shape(1));
        Db.due("the root took it over", "1 2", db.store.levelsOf(1) + " " + db.store.freePages());
        sound();
        // The other way: the right one is empty, and has the one ahead for its neighbour.
        fresh("create table t (a text)");
        for (int i = 1; i <= 9; i++) add(i, 24);
        for (int i = 9; i >= 8; i--) takeOut(i, 24);
        Db.due("203 bytes", "[5 2]", shape(1));
        takeOut(7, 24);
        Db.due("174 bytes", "6", shape(1));
        fresh("create table t (a text unique)");
        for (int i = 1; i <= 9; i++) add(10 * i, 24);
        for (int i = 1; i <= 3; i++) add(i, 24);
        Db.due("the index has a full one on the left", "[8 4]", shape(2));
        for (int i = 9; i >= 7; i--) takeOut(10 * i, 24);
        Db.due("one cell on the right", "[8 1]", shape(2));
        takeOut(60, 24);
        Db.due("none", "8", shape(2));
        sound();
    }

    /** The next child of Q behind P, or without one the child ahead of P, is its neighbour. */
    private static void neighbours() {
        fresh("create table t (a text)");
        for (int i = 1; i <= 20; i++) add(i, 24);
        Db.due("leaves", "[5 5 5 5]", shape(1));
        // The second one is joined with the third one, not with the first one.
        for (int i = 6; i <= 8; i++) takeOut(i, 24);
        Db.due("203 bytes", "[5 2 5 5]", shape(1));
        takeOut(1, 24);
        Db.due("174 bytes with its next one", "[6 5 5]", shape(1));
        takeOut(16, 24);
        takeOut(17, 24);
        Db.due("232 bytes", "[6 5 3]", shape(1));
        takeOut(18, 24);
        Db.due("203 bytes with the one ahead", "[6 5 2]", shape(1));
        takeOut(19, 24);
        Db.due("174 bytes with the one ahead", "[6 6]", shape(1));
        sound();
    }

    /** Inner pages are joined, if their loads together with 2 and the length of the key in the cell of R in Q are at most 200. */
    private static void innerPagesOf200() {
        fresh("create table t (a text)", "create index i on t(a)");
        for (int i = 1; i <= 50; i++) add(i, i == 11 ? 17 : i == 46 ? 14 : 24);
        Db.due("253 bytes", "[[5 5 5 5 5] [5 5 5 5 5]]", shape(2));
        for (int i = 1; i <= 4; i++) takeOut(i, 24);
        Db.due("223 bytes", "[[6 5 5 5] [5 5 5 5 5]]", shape(2));
        for (int i = 5; i <= 8; i++) takeOut(i, 24);
        Db.due("still 223", "[[2 5 5 5] [5 5 5 5 5]]", shape(2));
        takeOut(9, 24);
        Db.due("200 bytes", "[6 5 5 5 5 5 5 5] 200", shape(2) + " " + load(3));
        Db.due("levels", 2, db.store.levelsOf(2));
        sound();
    }

    private static void innerPagesOf201() {
        fresh("create table t (a text)", "create index i on t(a)");
        for (int i = 1; i <= 50; i++) add(i, i == 11 ? 16 : i == 46 ? 15 : 24);
        for (int i = 1; i <= 9; i++) takeOut(i, 24);
        Db.due("201 bytes", "[[6 5 5] [5 5 5 5 5]]", shape(2));
        Db.due("loads", "60 30 111", load(db.store.pageByte(3, 2)) + " " + load(3) + " " + load(db.store.pageByte(3, 5)));
        for (int i = 10; i <= 13; i++) takeOut(i, i == 11 ? 16 : 24);
        Db.due("not yet", "[[2 5 5] [5 5 5 5 5]]", shape(2));
        takeOut(14, 24);
        Db.due("171 bytes", "[6 5 5 5 5 5 5] 171", shape(2) + " " + load(3));
        sound();
    }

    /** The last inner page has the one ahead for its neighbour. */
    private static void innerPagesFromBehind() {
        fresh("create table t (a text)", "create index i on t(a)");
        for (int i = 1; i <= 50; i++) add(i, i == 46 ? 7 : 24);
        Db.due("253 bytes", "[[5 5 5 5 5] [5 5 5 5 5]]", shape(2));
        for (int i = 50; i >= 46; i--) takeOut(i, i == 46 ? 7 : 24);
        Db.due("240 bytes", "[[5 5 5 5 5] [5 5 5 5]]", shape(2));
        for (int i = 45; i >= 42; i--) takeOut(i, 24);
        Db.due("210 bytes", "[[5 5 5 5 5] [5 5 6]]", shape(2));
        for (int i = 41; i >= 37; i--) takeOut(i, 24);
        Db.due("180 bytes", "[5 5 5 5 5 5 6]", shape(2));
        Db.due("the key came down", "6 180", db.store.pageByte(3, 1) + " " + load(3));
        sound();
    }

    /** Without a neighbour, that is all: a leaf may be empty, and an inner page without cells. */
    private static void innerPageWithoutCells() {
        fresh("create table t (a text)", "create index i on t(a)");
        for (int i = 1; i <= 70; i++) add(i, 24);
        Db.due("shape", "[[5 5 5 5 5] [5 5 5 5 5 5 5 5 5]]", shape(2));
        for (int i = 1; i <= 24; i++) takeOut(i, 24);
        Db.due("one leaf, one cell", "[[1] [5 5 5 5 5 5 5 5 5]]", shape(2));
        Db.due("an inner page without cells", "2 0", db.store.pageByte(db.store.pageByte(3, 2), 0) + " " + db.store.pageByte(db.store.pageByte(3, 2), 1));
        takeOut(25, 24);
        Db.due("an empty leaf", "[[0] [5 5 5 5 5 5 5 5 5]] 3 45", shape(2) + " " + db.store.levelsOf(2) + " " + db.store.entriesOf(2));
        sound();
        db.query("45", "select count(*) from t where a>=''");
        db.query("'" + text(26, 24) + "'", "select min(a) from t where a>=''");
        db.query("0", "select count(*) from t where a<'026'");
        add(3, 24);
        Db.due("put in there", "[[1] [5 5 5 5 5 5 5 5 5]]", shape(2));
        db.query("'" + text(3, 24) + "'", "select a from t where a<'026'");
        takeOut(3, 24);
        // As the right one gets smaller, the two are joined: the leaf has a neighbour again.
        for (int i = 26; i <= 45; i++) takeOut(i, 24);
        Db.due("joined", 2, db.store.levelsOf(2));
        for (int i = 46; i <= 70; i++) takeOut(i, 24);
        Db.due("all gone", 0, db.store.entriesOf(2));
        sound();
    }

    /** As long as the root is an inner page without cells, it gets all bytes of its only child, and this is freed. */
    private static void rootsThatTakeOver() {
        fresh("create table t (a text unique)");
        for (int i = 1; i <= 60; i++) add(i, 24);
        Db.due("levels", "2 3", db.store.levelsOf(1) + " " + db.store.levelsOf(2));
        int rootOfTable = db.store.rootOf(1);
        int rootOfIndex = db.store.rootOf(2);
        for (int i = 60; i >= 2; i--) takeOut(i, 24);
        Db.due("leaves again", "1 1", shape(1) + " " + shape(2));
        Db.due("the roots stay where they are", rootOfTable + " " + rootOfIndex, db.store.rootOf(1) + " " + db.store.rootOf(2));
        Db.due("all others are free", 4, db.store.pages() - db.store.freePages());
        sound();
        takeOut(1, 24);
        Db.due("no cells", "0 0", shape(1) + " " + shape(2));
        for (int i = 1; i <= 60; i++) add(i, 24);
        Db.due("levels again", "2 3", db.store.levelsOf(1) + " " + db.store.levelsOf(2));
        sound();
    }

    /** A tree is freed page by page: its root, then likewise the tree under each child of it, from the first one on. */
    private static void freedTrees() {
        fresh("create table t (a text)", "create index i on t(a)");
        for (int i = 1; i <= 50; i++) add(i, i == 46 ? 7 : 24);
        StringBuilder due = new StringBuilder();
        list(db.store.rootOf(2), due);
        db.ok("drop index i").store.checkpoint();
        StringBuilder found = new StringBuilder();
        for (int page = db.store.pageByte(0, 2); page > 0; page = db.store.pageByte(page, 2)) found.insert(0, page + " ");
        Db.due("the order", due.toString(), found.toString());
        sound();
    }

    private static void list(int page, StringBuilder to) {
        to.append(page).append(' ');
        if (db.store.pageByte(page, 0) == 1) return;
        list(db.store.pageByte(page, 2), to);
        int at = 4;
        for (int i = 0; i < db.store.pageByte(page, 1); i++) {
            list(db.store.pageByte(page, at + 1), to);
            at += 2 + db.store.pageByte(page, at);
        }
    }

    /** The loads of all leaves of all trees together, divided by 252 times the number of these leaves. */
    private static void loads() {
        fresh();
        Db.due("nothing", 0.0, db.store.meanFill());
        db.ok("create table t (a text)");
        int ofDefinitions = 2 + 2 + 2 + 2 + 2 + "create table t (a text)".length();
        Db.due("one empty", ofDefinitions / 504.0, db.store.meanFill());
        for (int i = 1; i <= 9; i++) add(i, 23);
        Db.due("one full", (ofDefinitions + 252) / 504.0, db.store.meanFill());
        add(10, 23);
        // Inner pages do not count.
        Db.due("two halves", (ofDefinitions + 280) / 756.0, db.store.meanFill());
    }

    // ---- cells

    /** An int in a key: a byte 1, then its eight bytes, the highest first, the highest bit of the first one turned; null: a byte 0. */
    private static void keysOfInts() {
        fresh("create table t (a int)", "create index i on t(a)");
        db.prepare(1, "insert into t values (?)");
        Long[] values = {Long.MAX_VALUE, null, 0L, Long.MIN_VALUE, -1L, 1L};
        for (Long v : values) {
            if (v == null) db.store.bindNull(1, 0);
            else db.store.bindNumber(1, 0, v);
            db.store.run(1);
        }
        Db.due("in order", "1 6 0 0 3 0 0 0 2"
            + " 11 0 1 0 0 0 0 0 0 0 0 0 4"
            + " 11 0 1 127 255 255 255 255 255 255 255 0 5"
            + " 11 0 1 128 0 0 0 0 0 0 0 0 3"
            + " 11 0 1 128 0 0 0 0 0 0 1 0 6"
            + " 11 0 1 255 255 255 255 255 255 255 255 0 1", page(3));
    }

    /** A text in a key: a byte 2, its bytes, a byte 0. */
    private static void keysOfTexts() {
        fresh("create table t (a text,b text)", "create index i on t(a,b)");
        db.ok("insert into t values ('a','b'),('ab',''),('',''),(null,'z'),('a',null),('a','b')");
        Db.due("in order", "1 6 0 0 6 0 0 2 122 0 0 4"
            + " 6 0 2 0 2 0 0 3"
            + " 6 0 2 97 0 0 0 5"
            + " 8 0 2 97 0 2 98 0 0 1"
            + " 8 0 2 97 0 2 98 0 0 6"
            + " 8 0 2 97 98 0 2 0 0 2", page(3));
    }

    /** An int in a record: as few bytes as can be in two's complement; a text of n bytes: a byte 16 + n. */
    private static void records() {
        Object[][] due = {{0L, "1 0"}, {-1L, "1 255"}, {127L, "1 127"}, {128L, "2 0 128"}, {-128L, "1 128"}, {-129L, "2 255 127"}, {32767L, "2 127 255"},
            {32768L, "3 0 128 0"}, {-32768L, "2 128 0"}, {-32769L, "3 255 127 255"}, {1L << 23, "4 0 128 0 0"}, {-(1L << 23), "3 128 0 0"},
            {(1L << 31) - 1, "4 127 255 255 255"}, {1L << 31, "5 0 128 0 0 0"}, {-(1L << 31), "4 128 0 0 0"}, {1L << 39, "6 0 128 0 0 0 0"},
            {-(1L << 39) - 1, "6 255 127 255 255 255 255"}, {1L << 47, "7 0 128 0 0 0 0 0"}, {1L << 55, "8 0 128 0 0 0 0 0 0"}, {-(1L << 55), "7 128 0 0 0 0 0 0"},
            {Long.MAX_VALUE, "8 127 255 255 255 255 255 255 255"}, {Long.MIN_VALUE, "8 128 0 0 0 0 0 0 0"}};
        fresh("create table t (a int,b text)");
        db.prepare(1, "insert into t values (?,$)");
        for (Object[] d : due) {
            db.ok("delete from t");
            db.store.bindNumber(1, 0, (Long) d[0]);
            db.tape("").store.bindText(1, 1);
            Db.due("code", 0, db.store.run(1));
            int bytes = ((String) d[1]).split(" ").length + 1;
            Db.due("record of " + d[0], "1 1 0 0 2 " + bytes + " 0 1 " + d[1] + " 16", page(2));
            db.query(d[0] + " ''", "select a,b from t");
            db.store.checkpoint();
        }
        db.ok("delete from t").ok("insert into t values (null,'aaaaaaaaaaaaaaaaaaaaaaaa')");
        Db.due("24 bytes", "1 1 0 0 2 26 0 1 0 40" + " 97".repeat(24), page(2));
        db.ok("update t set b=null");
        Db.due("nulls", "1 1 0 0 2 2 0 1", page(2));
    }

    /** That of definitions, then those that the definitions tell, by numbers, each in the order of its piece 0. */
    private static void treesInOrder() {
        fresh("create table t (a int unique,b int,unique(b))", "create view v as select a from t", "create index i on t(b)", "create table u (a int)");
        Db.due("trees", "6: 1 2 3 4 5 6", trees());
        db.ok("drop view v").ok("drop index i");
        Db.due("without the index", "5: 1 2 3 4 6", trees());
        db.ok("create index j on u(a)");
        // It has number 2 now, and the page that was free.
        Db.due("the index comes ahead of u", "6: 1 2 3 4 5 6", trees());
        db.ok("drop table t");
        Db.due("without t", "3: 1 5 6", trees());
    }

    private static String trees() {
        StringBuilder b = new StringBuilder().append(db.store.trees()).append(':');
        for (int i = 0; i < db.store.trees(); i++) b.append(' ').append(db.store.rootOf(i));
        return b.toString();
    }

    // ---- as the client in use sees them

    private static void asEachClientSees() {
        fresh("create table t (a int)", "insert into t values (1)");
        db.ok("begin").ok("insert into t values (2)").ok("create table u (a int)");
        Db.due("the writer", "4 3 2 3", db.store.pages() + " " + db.store.trees() + " " + db.store.entriesOf(1) + " " + db.store.treePages());
        db.store.use(2);
        Db.due("another client", "3 2 1 2", db.store.pages() + " " + db.store.trees() + " " + db.store.entriesOf(1) + " " + db.store.treePages());
        Db.due("no such page", "IndexOutOfBoundsException", () -> db.store.pageByte(3, 0));
        Db.due("no such tree", "IndexOutOfBoundsException", () -> db.store.rootOf(2));
        db.ok("begin").ok("select a from t");
        db.store.use(0);
        db.ok("commit");
        Db.due("all behind a commit", "4 3 2", db.store.pages() + " " + db.store.trees() + " " + db.store.entriesOf(1));
        db.store.use(2);
        Db.due("by its mark", "3 2 1", db.store.pages() + " " + db.store.trees() + " " + db.store.entriesOf(1));
        db.ok("rollback");
        Db.due("by the newest one", "4 3 2", db.store.pages() + " " + db.store.trees() + " " + db.store.entriesOf(1));
    }

    /** Each of the calls looks anew at what the client in use sees, whatever was asked ahead of it. */
    private static void eachAnswerAlone() {
        fresh("create table t (a int unique)", "create table x (a int)", "drop table x", "insert into t values (1)");
        db.prepare(5, "select 1 from t where a=1");
        db.ok("begin").ok("drop table t").ok("create table u (a int)").ok("create view v as select a from u").ok("insert into u values (1),(2),(3)");
        db.ok("create view w as select a from u where " + "(a<>1 or a<>3) and ".repeat(10) + "a<>2");
        Object[] ofWriter = answers();
        db.store.use(1);
        Object[] ofOther = answers();
        for (int i = 0; i < ofWriter.length; i++) {
            Db.due("they differ, call " + i, false, ofWriter[i].equals(ofOther[i]));
            for (int k = 0; k < ofWriter.length; k++) {
                db.store.use(0);
                answer(k);
                db.store.use(1);
                Db.due("call " + i + " behind call " + k + " of another client", ofOther[i], answer(i));
                answer(k);
                db.store.use(0);
                Db.due("call " + i + " of the writer behind call " + k, ofWriter[i], answer(i));
            }
        }
    }

    private static Object[] answers() {
        Object[] list = new Object[13];
        for (int i = 0; i < list.length; i++) list[i] = answer(i);
        return list;
    }

    private static Object answer(int call) {
        return switch (call) {
            case 0 -> db.store.pageByte(0, 2) * 1000 + db.store.pageByte(1, 1);
            case 1 -> db.store.freePages();
            case 2 -> db.store.treePages();
            case 3 -> db.store.trees();
            case 4 -> db.store.rootOf(1);
            case 5 -> db.store.entriesOf(1);
            case 6 -> db.store.meanFill();
            case 7 -> db.store.framesDue();
            case 8 -> db.store.indexUsed(5, 0);
            case 9 -> db.store.worthOf(5, 0);
            case 10 -> db.store.levelsOf(0);
            case 11 -> db.prepare(6, "select") + db.store.digest();
            default -> db.prepare(6, "select nope from u") * 1000 + db.store.errorAt();
        };
    }

    /** How many pages are not as the mark of the client in use tells; 0 if it has no mark. */
    private static void framesThatAreDue() {
        fresh("create table t (a int unique)", "insert into t values (1),(2)");
        Db.due("no mark", 0, db.store.framesDue());
        db.ok("begin");
        Db.due("still none", 0, db.store.framesDue());
        db.ok("select a from t");
        Db.due("a mark, nothing changed", 0, db.store.framesDue());
        db.ok("insert into t values (3)");
        Db.due("the table and its index", 2, db.store.framesDue());
        db.ok("create table u (a int)");
        Db.due("the head, definitions and a new page", 5, db.store.framesDue());
        db.ok("drop table u");
        Db.due("the new page is as it was, but the head tells of it", 3, db.store.framesDue());
        db.ok("delete from t where a=3");
        Db.due("the table and its index are as they were", 1, db.store.framesDue());
        db.store.use(1);
        Db.due("another client", 0, db.store.framesDue());
        db.store.use(0);
        int bytes = db.store.logBytes();
        db.ok("commit");
        Db.due("as many frames", bytes + 262, db.store.logBytes());
        Db.due("none behind it", 0, db.store.framesDue());
        // A page that differs in its last byte, and one that differs in its first byte behind the head of it.
        fresh("create table t (a text)", "create table u (a text)");
        for (int i = 1; i <= 9; i++) {
            add(i, 23);
            db.ok("insert into u values ('" + text(i, 23) + "')").store.checkpoint();
        }
        Db.due("full leaves", "9 9", shape(1) + " " + shape(2));
        String[] tables = {"t", "u"};
        for (int k = 0; k < 2; k++) {
            db.ok("begin").ok("update " + tables[k] + " set a='" + text(9, 22) + "y' where a='" + text(9, 23) + "'");
            Db.due("the last byte of page " + (2 + k), (int) 'y', db.store.pageByte(2 + k, 255));
            Db.due("one page", 1, db.store.framesDue());
            db.ok("commit");
            Db.due("its frame", 2 + k, db.store.logByte(db.store.logBytes() - 262));
        }
    }
}
