import java.util.ArrayList;
import java.util.Arrays;
import java.util.List;
import java.util.Random;
import java.util.TreeMap;

/**
 * Promises 29 to 32: every byte of every page, against a plain model of what the document says of pages and trees, which
 * takes the cells of a page apart and puts them together anew each time.
 */
public final class PageModelTest {
    private static final class Full extends RuntimeException {
        private static final long serialVersionUID = 1;
    }

    /** The key of a cell, and its payload, or its child. */
    private record Cell(byte[] key, byte[] payload, int child) {
        int bytes(int kind) {
            return 2 + key.length + (kind == 1 ? payload.length : 0);
        }
    }

    private static final class Model {
        int[][] pages = new int[60][256];

        Model() {
            pages[0][0] = 7;
            pages[0][1] = 2;
            pages[1][0] = 1;
        }

        int[][] copy() {
            int[][] c = new int[60][];
            for (int i = 0; i < 60; i++) c[i] = pages[i].clone();
            return c;
        }

        int take() {
            int page = pages[0][2];
            if (page != 0) {
                pages[0][2] = pages[page][2];
                return page;
            }
            if (pages[0][1] == 60) throw new Full();
            return pages[0][1]++;
        }

        void free(int page) {
            pages[page] = new int[256];
            pages[page][2] = pages[0][2];
            pages[0][2] = page;
        }

        List<Cell> cells(int page) {
            int[] b = pages[page];
            List<Cell> cells = new ArrayList<>();
            int at = 4;
            for (int i = 0; i < b[1]; i++) {
                byte[] key = new byte[b[at]];
                for (int k = 0; k < key.length; k++) key[k] = (byte) b[at + 2 + k];
                byte[] payload = new byte[b[0] == 1 ? b[at + 1] : 0];
                for (int k = 0; k < payload.length; k++) payload[k] = (byte) b[at + 2 + key.length + k];
                cells.add(new Cell(key, payload, b[at + 1]));
                at += 2 + key.length + payload.length;
            }
            return cells;
        }

        void write(int page, int kind, int first, List<Cell> cells) {
            int[] b = new int[256];
            b[0] = kind;
            b[1] = cells.size();
            b[2] = first;
            int at = 4;
            for (Cell c : cells) {
                b[at++] = c.key.length;
                b[at++] = kind == 1 ? c.payload.length : c.child;
                for (byte x : c.key) b[at++] = x & 255;
                if (kind == 1) for (byte x : c.payload) b[at++] = x & 255;
            }
            pages[page] = b;
        }

        int load(int page) {
            return load(pages[page][0], cells(page));
        }

        static int load(int kind, List<Cell> cells) {
            int sum = 0;
            for (Cell c : cells) sum += c.bytes(kind);
            return sum;
        }

        List<Integer> children(int page) {
            List<Integer> children = new ArrayList<>();
            children.add(pages[page][2]);
            for (Cell c : cells(page)) children.add(c.child);
            return children;
        }

        List<Integer> way(int root, byte[] key) {
            List<Integer> way = new ArrayList<>(List.of(root));
            int page = root;
            while (pages[page][0] == 2) {
                int next = pages[page][2];
                for (Cell c : cells(page)) {
                    if (Arrays.compareUnsigned(c.key, key) <= 0) next = c.child;
                }
                way.add(next);
                page = next;
            }
            return way;
        }

        void put(int root, byte[] key, byte[] payload) {
            List<Integer> way = way(root, key);
            Cell added = new Cell(key, payload, 0);
            for (int level = way.size() - 1; level >= 0; level--) {
                int page = way.get(level);
                int kind = pages[page][0];
                int first = pages[page][2];
                List<Cell> cells = cells(page);
                int place = 0;
                while (place < cells.size() && Arrays.compareUnsigned(cells.get(place).key, added.key) < 0) place++;
                cells.add(place, added);
                int total = load(kind, cells);
                if (total <= 252) {
                    write(page, kind, first, cells);
                    return;
                }
                int n = 0;
                int sum = 0;
                while (2 * sum < total) sum += cells.get(n++).bytes(kind);
                List<Cell> left = cells.subList(0, kind == 1 ? n : n - 1);
                List<Cell> right = cells.subList(n, cells.size());
                Cell between = kind == 1 ? cells.get(n) : cells.get(n - 1);
                int to = level == 0 ? take() : page;
                int behind = take();
                write(to, kind, first, left);
                write(behind, kind, kind == 1 ? 0 : between.child, right);
                added = new Cell(between.key, new byte[0], behind);
                if (level == 0) write(page, 2, to, List.of(added));
            }
        }

        void takeOut(int root, byte[] key) {
            List<Integer> way = way(root, key);
            int leaf = way.get(way.size() - 1);
            List<Cell> cells = cells(leaf);
            cells.removeIf(c -> Arrays.equals(c.key, key));
            write(leaf, 1, 0, cells);
            for (int level = way.size() - 1; level > 0; level--) {
                if (!joins(way.get(level), way.get(level - 1))) return;
            }
            while (pages[root][0] == 2 && pages[root][1] == 0) {
                int child = pages[root][2];
                pages[root] = pages[child].clone();
                free(child);
            }
        }

        boolean joins(int page, int parent) {
            List<Integer> children = children(parent);
            int at = children.indexOf(page);
            if (children.size() == 1) return false;
            int rightAt = at + 1 < children.size() ? at + 1 : at;
            int left = children.get(rightAt - 1);
            int right = children.get(rightAt);
            byte[] key = cells(parent).get(rightAt - 1).key;
            int loads = load(left) + load(right);
            List<Cell> joined = cells(left);
            if (pages[page][0] == 1) {
                if (loads > 200 && !joined.isEmpty() && !cells(right).isEmpty()) return false;
            } else {
                if (loads + 2 + key.length > 200) return false;
                joined.add(new Cell(key, new byte[0], pages[right][2]));
            }
            joined.addAll(cells(right));
            write(left, pages[left][0], pages[left][2], joined);
            List<Cell> rest = cells(parent);
            rest.remove(rightAt - 1);
            write(parent, 2, pages[parent][2], rest);
            free(right);
            return true;
        }

        void freeTree(int root) {
            List<Integer> children = pages[root][0] == 2 ? children(root) : List.of();
            free(root);
            for (int child : children) freeTree(child);
        }
    }

    private static final Random RANDOM = new Random(7);
    private static Db db;
    private static Model model;
    private static TreeMap<Integer, Object[]> rows;

    public static void main(String[] args) {
        for (int round = 0; round < 24; round++) round(round % 3);
        Db.end();
    }

    private static byte[] bytes(String text) {
        byte[] b = new byte[text.length()];
        for (int i = 0; i < b.length; i++) b[i] = (byte) text.charAt(i);
        return b;
    }

    private static byte[] number(int n) {
        return new byte[] {(byte) (n >> 8), (byte) n};
    }

    private static byte[] record(Object[] row) {
        StringBuilder b = new StringBuilder();
        for (Object v : row) {
            if (v == null) {
                b.append((char) 0);
            } else if (v instanceof String text) {
                b.append((char) (16 + text.length())).append(text);
            } else {
                byte[] all = java.math.BigInteger.valueOf((Long) v).toByteArray();
                b.append((char) all.length);
                for (byte x : all) b.append((char) (x & 255));
            }
        }
        return bytes(b.toString());
    }

    private static byte[] key(int number, Object... values) {
        StringBuilder b = new StringBuilder();
        for (Object v : values) {
            if (v == null) {
                b.append((char) 0);
            } else if (v instanceof String text) {
                b.append((char) 2).append(text).append((char) 0);
            } else {
                b.append((char) 1);
                for (int i = 7; i >= 0; i--) b.append((char) (((Long) v ^ Long.MIN_VALUE) >> 8 * i & 255));
            }
        }
        return bytes(b.append((char) (number >> 8)).append((char) (number & 255)).toString());
    }

    private static void define(int number, int kind, String text, int... roots) {
        StringBuilder piece = new StringBuilder().append((char) kind);
        for (int root : roots) piece.append((char) root);
        model.put(1, new byte[] {(byte) number, 0}, bytes(piece.toString()));
        for (int at = 0; at < text.length(); at += 60) {
            model.put(1, new byte[] {(byte) number, (byte) (at / 60 + 1)}, bytes(text.substring(at, Math.min(text.length(), at + 60))));
        }
    }

    private static int leaf() {
        int page = model.take();
        model.write(page, 1, 0, List.of());
        return page;
    }

    private static Object value(int kind) {
        if (RANDOM.nextInt(12) == 0) return null;
        if (kind == 0) return RANDOM.nextInt(3) == 0 ? RANDOM.nextLong() >> RANDOM.nextInt(64) : (long) RANDOM.nextInt(300) - 150;
        StringBuilder b = new StringBuilder();
        int length = kind == 1 ? RANDOM.nextInt(25) : 18 + RANDOM.nextInt(7);
        for (int i = 0; i < length; i++) b.append((char) ('a' + RANDOM.nextInt(3)));
        return b.toString();
    }

    private static String literal(Object v) {
        return v instanceof String ? "'" + v + "'" : String.valueOf(v);
    }

    /** Runs a text whose values are parameters, since ints have more digits than numbers may have. */
    private static int run(String text, Object... values) {
        Db.due(text, 0, db.prepare(1, text));
        for (int i = 0; i < values.length; i++) {
            if (values[i] instanceof Long n) db.store.bindNumber(1, i, n);
            else if (values[i] instanceof String t) db.tape(t).store.bindText(1, i);
        }
        int code = db.store.run(1);
        db.store.checkpoint();
        return code;
    }

    private static void compare(String what) {
        int count = model.pages[0][1];
        Db.due("pages behind " + what, count, db.store.pages());
        for (int page = 0; page < Math.min(count, db.store.pages()); page++) {
            for (int i = 0; i < 256; i++) {
                if (model.pages[page][i] == db.store.pageByte(page, i)) continue;
                Db.due("page " + page + ", byte " + i + " behind " + what, model.pages[page][i], db.store.pageByte(page, i));
                return;
            }
        }
    }

    /** Ints, texts of any length, or long texts, whose trees are deep. */
    private static void round(int kind) {
        db = new Db();
        model = new Model();
        rows = new TreeMap<>();
        String type = kind == 0 ? "int" : "text";
        String table = "create table t (k int unique,a " + type + ",b " + type + ",c " + type + ")";
        int root = model.take();
        int unique = model.take();
        model.write(root, 1, 0, List.of());
        model.write(unique, 1, 0, List.of());
        define(1, 1, table, root, unique);
        db.ok(table);
        String index = "create index i on t(a,b,c)";
        int tree = leaf();
        define(2, 2, index, tree);
        db.ok(index);
        compare("definitions");
        int[] trees = {root, unique, tree};
        for (int step = 0; step < 400; step++) {
            int[][] before = model.copy();
            boolean grow = step / 50 % 2 == 0 ? RANDOM.nextInt(5) > 0 : RANDOM.nextInt(5) == 0;
            try {
                if (grow || rows.isEmpty()) addRow(step, kind, trees);
                else if (RANDOM.nextInt(3) == 0) changeRow(kind, trees);
                else takeOutRow(trees);
            } catch (Full e) {
                model.pages = before;
            }
            compare("step " + step);
        }
        model.freeTree(root);
        model.freeTree(unique);
        model.freeTree(tree);
        for (int number = 1; number <= 2; number++) {
            String text = number == 1 ? table : index;
            for (int piece = 0; piece <= (text.length() + 59) / 60; piece++) model.takeOut(1, new byte[] {(byte) number, (byte) piece});
        }
        db.ok("drop table t");
        compare("drop");
        Db.due("all pages are free", model.pages[0][1] - 2, db.store.freePages());
    }

    private static void addRow(int step, int kind, int[] trees) {
        Object[] row = {(long) step, value(kind), value(kind), value(kind)};
        int number = rows.isEmpty() ? 1 : rows.lastKey() + 1;
        int code = run("insert into t values (" + step + "," + (kind == 0 ? "?,?,?" : "$,$,$") + ")", row[1], row[2], row[3]);
        if (record(row).length > 80) {
            Db.due("a record that is too long", 10, code);
            return;
        }
        Db.due("code of insert", true, code == 0 || code == 9);
        model.put(trees[0], number(number), record(row));
        model.put(trees[1], key(number, row[0]), new byte[0]);
        model.put(trees[2], key(number, row[1], row[2], row[3]), new byte[0]);
        Db.due("code of insert", 0, code);
        rows.put(number, row);
    }

    private static int someRow() {
        Integer[] numbers = rows.keySet().toArray(new Integer[0]);
        return numbers[RANDOM.nextInt(numbers.length)];
    }

    private static void changeRow(int kind, int[] trees) {
        int number = someRow();
        Object[] row = rows.get(number);
        Object[] changed = row.clone();
        changed[1] = RANDOM.nextInt(4) == 0 ? row[1] : value(kind);
        int code = run("update t set a=" + (kind == 0 ? "?" : "$") + " where k=" + literal(row[0]), changed[1]);
        if (record(changed).length > 80) {
            Db.due("a record that is too long", 10, code);
            return;
        }
        if (!Arrays.equals(record(row), record(changed))) {
            model.takeOut(trees[0], number(number));
            model.put(trees[0], number(number), record(changed));
            model.takeOut(trees[2], key(number, row[1], row[2], row[3]));
            model.put(trees[2], key(number, changed[1], changed[2], changed[3]), new byte[0]);
        }
        Db.due("code of update", 0, code);
        rows.put(number, changed);
    }

    private static void takeOutRow(int[] trees) {
        int number = someRow();
        Object[] row = rows.remove(number);
        Db.due("code of delete", 0, run("delete from t where k=" + literal(row[0])));
        model.takeOut(trees[0], number(number));
        model.takeOut(trees[1], key(number, row[0]));
        model.takeOut(trees[2], key(number, row[1], row[2], row[3]));
    }
}
