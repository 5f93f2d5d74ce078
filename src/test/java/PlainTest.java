import java.util.ArrayList;
import java.util.List;
import java.util.Map;
import java.util.Objects;
import java.util.Random;
import java.util.TreeMap;
import java.util.function.Supplier;

/**
 * Promises 1 to 49 together: calls at random, whose answers are compared with those of PlainStore. With two numbers behind it,
 * it makes so many runs from a seed on.
 */
public final class PlainTest {
    private static final String[] NAMES = {"t", "u", "w", "x"};
    private static final String[] VIEWS = {"v", "y"};
    private static final String[] INDICES = {"i", "j", "k"};
    private static final String[] COLUMNS = {"a", "b", "c", "d", "e", "f"};
    private static final String[] TEXTS = {"''", "'x'", "'y'", "'xy'", "'it''s'", "'%x_'", "'aaaaaaaaaaaaaaaaaaaaaaaa'",
        "'bbbbbbbbbbbbbbbbbbbbbbb'", "'cccccccccccccccccc'", "'zz'"};

    private final Random random;
    private final Both both = new Both();
    private final SqlStore s = both.store;
    private final PlainStore plain = both.plain;
    private TreeMap<String, List<String>> tables = new TreeMap<>();
    /** What refs may mean: names of sources, each with its columns, of the place and those further out. */
    private final List<Map.Entry<String, List<String>>> seen = new ArrayList<>();
    /** The refs that may stand in a grouped core; null if there is none. */
    private List<String> grouped;

    private PlainTest(long seed) {
        random = new Random(seed);
    }

    public static void main(String[] args) {
        int first = args.length > 0 ? Integer.parseInt(args[0]) : 1;
        int count = args.length > 1 ? Integer.parseInt(args[1]) : 40;
        for (int seed = first; seed < first + count; seed++) {
            PlainTest test = new PlainTest(seed);
            for (int i = 0; i < 120 && test.both.right; i++) test.act();
            if (!test.both.right) System.out.println("seed " + seed + test.both.done);
            if (Db.wrong > 5) break;
        }
        if (args.length > 0) System.out.println(Both.COUNTS);
        Db.end();
    }

    // ---- calls

    private int upTo(int n) {
        return random.nextInt(n);
    }

    private boolean chance(int percent) {
        return random.nextInt(100) < percent;
    }

    private String oneOf(String... texts) {
        return texts[upTo(texts.length)];
    }

    private void act() {
        if (!s.isOpen() || chance(2)) {
            closed();
            return;
        }
        int kind = upTo(100);
        if (kind < 7) {
            int client = upTo(3);
            both.use(client);
        } else if (kind < 15) {
            both.same("checkpoint", s::checkpoint, plain::checkpoint);
        } else if (kind < 17) {
            both.same("sync", s::sync, plain::sync);
        } else if (kind < 20) {
            getters();
        } else if (kind < 26) {
            int slot = upTo(8);
            both.run(slot);
        } else if (kind < 30) {
            transaction();
        } else {
            statement();
        }
        both.digest();
    }

    private void closed() {
        if (s.isOpen()) {
            int lost = chance(50) ? 0 : upTo(s.unsafeBytes() + 2);
            int copied = chance(50) ? 0 : upTo(5);
            both.same("crash " + lost + " " + copied, () -> s.crash(lost, copied), () -> plain.crash(lost, copied));
            both.digest();
            return;
        }
        for (int i = upTo(3); i > 0; i--) {
            int place = upTo(Math.max(1, s.logBytes() + 2)) - 1;
            int mask = upTo(260) - 2;
            both.same("poke " + place + " " + mask, () -> s.poke(place, mask), () -> plain.poke(place, mask));
        }
        getters();
        both.same("open", s::open, plain::open);
        both.digest();
    }

    private void getters() {
        int a = upTo(6) - 1;
        int b = upTo(6) - 1;
        int slot = upTo(10) - 1;
        int byteOf = upTo(258) - 1;
        int page = upTo(62) - 1;
        int place = upTo(9000);
        both.same("trees", s::trees, plain::trees);
        both.same("rootOf " + a, () -> s.rootOf(a), () -> plain.rootOf(a));
        both.same("levelsOf " + a, () -> s.levelsOf(a), () -> plain.levelsOf(a));
        both.same("entriesOf " + a, () -> s.entriesOf(a), () -> plain.entriesOf(a));
        both.same("meanFill", s::meanFill, plain::meanFill);
        both.same("pages", s::pages, plain::pages);
        both.same("freePages", s::freePages, plain::freePages);
        both.same("treePages", s::treePages, plain::treePages);
        both.same("framesDue", s::framesDue, plain::framesDue);
        both.same("kindAt", () -> s.kindAt(a, b), () -> plain.kindAt(a, b));
        both.same("numberAt", () -> s.numberAt(a, b), () -> plain.numberAt(a, b));
        both.same("lengthAt", () -> s.lengthAt(a, b), () -> plain.lengthAt(a, b));
        both.same("byteAt", () -> s.byteAt(a, b, 1), () -> plain.byteAt(a, b, 1));
        both.same("parameters", () -> s.parameters(slot), () -> plain.parameters(slot));
        both.same("pageByte", () -> s.pageByte(page, byteOf), () -> plain.pageByte(page, byteOf));
        both.same("fileByte", () -> s.fileByte(page, byteOf), () -> plain.fileByte(page, byteOf));
        both.same("logByte", () -> s.logByte(place), () -> plain.logByte(place));
        both.same("bindNumber", () -> s.bindNumber(slot, a, page), () -> plain.bindNumber(slot, a, page));
        both.same("bindNull", () -> s.bindNull(slot, b), () -> plain.bindNull(slot, b));
        both.same("bindText", () -> s.bindText(slot, b), () -> plain.bindText(slot, b));
        both.indices(slot);
    }

    private void transaction() {
        run(upTo(8), oneOf("begin", "begin", "begin", "commit", "commit", "rollback", "savepoint p", "savepoint q", "rollback to p", "rollback to q",
            "release p", "release q"));
    }

    private void statement() {
        tables = plain.tables();
        seen.clear();
        grouped = null;
        String text = "";
        int kind = upTo(100);
        if (kind < 10 || tables.isEmpty()) text = createTable();
        else if (kind < 16) text = createIndex();
        else if (kind < 21) text = "create view " + oneOf(VIEWS) + " as " + query(2, chance(70) ? "it" : null, true);
        else if (kind < 24) text = drop();
        else if (kind < 48) text = insert();
        else if (kind < 58) text = update();
        else if (kind < 65) text = delete();
        else text = query(3, null, false);
        if (chance(8)) text = spoilt(text);
        if (text.length() > 800) return;
        run(upTo(8), text);
    }

    private String spoilt(String text) {
        String[] parts = {" ", "", "a", "1", "'", "(", ")", ",", " select ", " and ", "*", "t.", " as ", "?", "$", " count(*) ", " not ", "|", "'x'", "z"};
        int at = upTo(text.length());
        int to = Math.min(text.length(), at + upTo(4));
        return text.substring(0, at) + oneOf(parts) + text.substring(to);
    }

    private void run(int slot, String text) {
        if (!Objects.equals(both.prepare(slot, text), 0)) return;
        int parameters = plain.parameters(slot);
        for (int i = 0; i < parameters; i++) bind(slot, i);
        both.indices(slot);
        both.run(slot);
        if (parameters == 0 || chance(60)) return;
        for (int i = 0; i < parameters; i++) bind(slot, i);
        both.run(slot);
    }

    private void bind(int slot, int place) {
        if (chance(10)) return;
        String text = oneOf(TEXTS).replace("'", "");
        both.bind(slot, place, Both.number(random, 9), chance(5) ? text + text + text : text);
    }

    // ---- statements

    private static char typeOf(String column) {
        return "ace".contains(column) ? 'i' : 't';
    }

    private String column(String table) {
        List<String> columns = tables.get(table);
        if (columns == null || columns.isEmpty() || chance(3)) return oneOf(COLUMNS);
        String c = columns.get(upTo(columns.size()));
        return c == null ? "a" : c;
    }

    private String someTable() {
        if (tables.isEmpty() || chance(3)) return oneOf(oneOf(NAMES), oneOf(VIEWS), oneOf(INDICES), "nope");
        for (int i = 0; i < 5; i++) {
            String name = (String) tables.keySet().toArray()[upTo(tables.size())];
            if (!List.of(VIEWS).contains(name)) return name;
        }
        return oneOf(NAMES);
    }

    private String createTable() {
        String name = oneOf(NAMES);
        List<String> columns = new ArrayList<>();
        for (String c : COLUMNS) {
            if (chance(50)) columns.add(c);
        }
        if (columns.isEmpty()) columns.add("a");
        if (chance(2)) columns.add("a");
        tables.put(name, columns);
        StringBuilder b = new StringBuilder("create table " + name + " (");
        for (String c : columns) {
            if (b.charAt(b.length() - 1) != '(') b.append(',');
            char type = chance(97) ? typeOf(c) : 'i';
            b.append(c).append(type == 'i' ? " int" : " text");
            if (chance(8)) b.append(" not null");
            if (chance(25)) b.append(" unique");
            if (chance(15)) b.append(" default ").append(type == 'i' || chance(4) ? chance(20) ? "null" : chance(30) ? "-" + upTo(300) : upTo(9) : oneOf(TEXTS));
            if (chance(25)) {
                String target = chance(30) ? name : someTable();
                b.append(" references ").append(target).append('(').append(chance(80) ? c : column(target)).append(')');
                b.append(oneOf("", " on delete cascade", " on delete set null"));
            }
        }
        for (int i = chance(60) ? 0 : upTo(3); i > 0; i--) {
            if (chance(50)) b.append(",unique(").append(columns(name, 1 + upTo(3))).append(')');
            else b.append(",check(").append(inTable(name, () -> chance(70) ? comparison(1) : expr('i', 2))).append(')');
        }
        return b.append(')').toString();
    }

    private String columns(String table, int count) {
        List<String> list = new ArrayList<>();
        for (int i = 0; i < count; i++) {
            String c = column(table);
            if (!list.contains(c) || chance(3)) list.add(c);
        }
        return String.join(",", list);
    }

    private String inTable(String table, Supplier<String> what) {
        List<String> columns = tables.getOrDefault(table, List.of("a"));
        seen.add(Map.entry(table, columns));
        String text = what.get();
        seen.remove(seen.size() - 1);
        return text;
    }

    private String createIndex() {
        String table = someTable();
        return "create " + oneOf("", "", "unique ") + "index " + oneOf(INDICES) + " on " + table + "(" + columns(table, 1 + upTo(3)) + ")";
    }

    private String drop() {
        return chance(40) ? "drop table " + oneOf(NAMES) : chance(50) ? "drop index " + oneOf(INDICES) : "drop view " + oneOf(VIEWS);
    }

    private String insert() {
        String table = someTable();
        StringBuilder b = new StringBuilder("insert " + oneOf("", "", "", "or ignore ", "or replace ") + "into " + table);
        List<String> columns = new ArrayList<>(tables.getOrDefault(table, List.of("a")));
        if (chance(30)) {
            columns.removeIf(c -> chance(30));
            if (columns.isEmpty()) columns.add("a");
            java.util.Collections.shuffle(columns, random);
            b.append(" (").append(String.join(",", columns)).append(')');
        }
        StringBuilder types = new StringBuilder();
        for (String c : columns) types.append(c == null ? 'i' : typeOf(c));
        if (chance(25)) return b.append(' ').append(query(2, types.toString(), false)).toString();
        b.append(" values ");
        for (int row = chance(40) ? 1 : 1 + upTo(8); row > 0; row--) {
            b.append('(');
            for (int i = 0; i < types.length(); i++) b.append(i > 0 ? "," : "").append(chance(85) ? literal(types.charAt(i)) : expr(types.charAt(i), 1));
            if (chance(1)) b.append(",1");
            b.append(row > 1 ? ")," : ")");
        }
        return b.toString();
    }

    private String literal(char type) {
        if (chance(10)) return "null";
        if (type == 't') return chance(60) ? oneOf(TEXTS) : "'" + "pqrs".charAt(upTo(4)) + upTo(50) + "'";
        return chance(70) ? "" + upTo(9) : chance(30) ? "-" + upTo(99999) : "" + upTo(60);
    }

    private String update() {
        String table = someTable();
        return inTable(table, () -> {
            StringBuilder b = new StringBuilder("update " + table + " set ");
            String[] columns = columns(table, 1 + upTo(2)).split(",");
            for (int i = 0; i < columns.length; i++) {
                b.append(i > 0 ? "," : "").append(columns[i]).append('=');
                b.append(chance(50) ? literal(typeOf(columns[i])) : expr(typeOf(columns[i]), 2));
            }
            return chance(80) ? b + " where " + condition(2) : b.toString();
        });
    }

    private String delete() {
        String table = someTable();
        return inTable(table, () -> "delete from " + table + (chance(85) ? " where " + condition(2) : ""));
    }

    // ---- queries

    /** A query whose columns have these types, or any; with names for its columns, if they are to be called so. */
    private String query(int depth, String types, boolean named) {
        StringBuilder wanted = new StringBuilder(types == null ? "" : types);
        if (types == null) {
            for (int i = chance(50) ? 1 : 1 + upTo(4); i > 0; i--) wanted.append(chance(60) ? 'i' : 't');
        }
        StringBuilder b = new StringBuilder(core(depth, wanted.toString(), named, types == null && !named));
        for (int i = chance(80) ? 0 : 1 + upTo(2); i > 0; i--) {
            b.append(oneOf(" union ", " union all ", " except ", " intersect ")).append(core(depth, wanted.toString(), false, false));
        }
        if (chance(30)) {
            b.append(" order by ");
            for (int i = chance(60) ? 1 : 2; i > 0; i--) {
                b.append(named && chance(50) ? names(upTo(wanted.length())) : "" + (1 + upTo(wanted.length() + (chance(3) ? 1 : 0))));
                b.append(oneOf("", " desc")).append(i > 1 ? "," : "");
            }
        }
        if (chance(15)) b.append(" limit ").append(chance(15) ? "?" : upTo(5)).append(chance(40) ? " offset " + (chance(15) ? "?" : upTo(4)) : "");
        return b.toString();
    }

    private static String names(int i) {
        return i % 2 == 0 ? COLUMNS[i % 6] : COLUMNS[i % 6];
    }

    private String core(int depth, String types, boolean named, boolean star) {
        List<String> ahead = grouped;
        int mark = seen.size();
        grouped = null;
        StringBuilder from = new StringBuilder();
        int sources = depth == 0 && chance(50) || chance(8) ? 0 : chance(55) ? 1 : chance(80) ? 2 : 3;
        List<String> own = new ArrayList<>();
        for (int i = 0; i < sources; i++) from.append(source(i, depth, mark, own));
        String where = sources > 0 && chance(60) || chance(10) ? " where " + condition(depth) : "";
        String group = "";
        if (chance(20) && sources > 0) {
            List<String> refs = new ArrayList<>();
            for (int i = chance(70) ? 1 : 2; i > 0; i--) refs.add(ownRef(mark, chance(50) ? 'i' : 't'));
            group = " group by " + String.join(",", refs);
            grouped = refs;
        } else if (chance(12)) {
            grouped = new ArrayList<>();
        }
        StringBuilder b = new StringBuilder("select ").append(chance(12) ? "distinct " : "");
        if (star && sources > 0 && grouped == null && chance(15)) {
            b.append("*");
        } else {
            for (int i = 0; i < types.length(); i++) {
                b.append(i > 0 ? "," : "").append(chance(50) && grouped == null ? ownRef(mark, types.charAt(i)) : expr(types.charAt(i), depth));
                if (named) b.append(" as ").append(names(i));
                else if (chance(5)) b.append(" as ").append(oneOf(COLUMNS));
            }
        }
        if (sources > 0) b.append(" from ").append(from);
        b.append(where).append(group);
        if (grouped != null && chance(40)) b.append(" having ").append(condition(depth));
        while (seen.size() > mark) seen.remove(seen.size() - 1);
        grouped = ahead;
        return b.toString();
    }

    private String source(int i, int depth, int mark, List<String> own) {
        String called;
        StringBuilder b = new StringBuilder();
        String join = i == 0 ? "" : oneOf(",", " join ", " left join ", " join ");
        b.append(join);
        List<String> columns;
        if (depth > 0 && chance(12)) {
            List<Map.Entry<String, List<String>>> kept = new ArrayList<>(seen);
            seen.clear();
            String types = oneOf("i", "it", "iti");
            List<String> ahead = grouped;
            grouped = null;
            called = oneOf("p", "q", "r");
            if (own.contains(called) && chance(95)) called = "s" + i;
            b.append('(').append(query(depth - 1, types, true)).append(") ").append(called);
            grouped = ahead;
            seen.addAll(kept);
            columns = new ArrayList<>();
            for (int k = 0; k < types.length(); k++) columns.add(names(k));
        } else {
            String table = chance(15) && tables.containsKey("v") ? "v" : chance(8) && tables.containsKey("y") ? "y" : someTable();
            columns = tables.getOrDefault(table, List.of("a", "b"));
            called = table;
            b.append(table);
            if (own.contains(table) && chance(97) || chance(25)) {
                called = oneOf("p", "q", "r");
                if (own.contains(called) && chance(95)) called = "s" + i;
                b.append(' ').append(called);
            }
        }
        own.add(called);
        seen.add(Map.entry(called, columns));
        if (join.contains("join")) {
            b.append(" on ").append(chance(70) ? joining(mark) : condition(depth > 0 ? depth - 1 : 0));
        }
        return b.toString();
    }

    private String joining(int mark) {
        char type = chance(70) ? 'i' : 't';
        String last = refOf(seen.get(seen.size() - 1), type);
        String other = refOf(seen.get(mark + upTo(Math.max(1, seen.size() - 1 - mark))), type);
        String op = oneOf("=", "=", "=", "<", "<=", ">", ">=", "<>");
        String on = chance(50) ? last + op + other : other + op + last;
        return chance(25) ? on + " and " + comparison(1) : on;
    }

    private String refOf(Map.Entry<String, List<String>> source, char type) {
        List<String> fitting = new ArrayList<>();
        for (String c : source.getValue()) {
            if (c != null && (typeOf(c) == type || chance(2))) fitting.add(c);
        }
        String column = fitting.isEmpty() ? null : fitting.get(upTo(fitting.size()));
        if (column == null) return literal(type);
        return chance(70) ? source.getKey() + "." + column : column;
    }

    private String ownRef(int mark, char type) {
        if (seen.size() <= mark) return literal(type);
        for (int i = 0; i < 4; i++) {
            String ref = refOf(seen.get(mark + upTo(seen.size() - mark)), type);
            if (Character.isLetter(ref.charAt(0)) && !ref.equals("null")) return ref;
        }
        return chance(95) ? seen.get(seen.size() - 1).getKey() + ".a" : literal(type);
    }

    private String ref(char type) {
        if (grouped != null && chance(92)) {
            for (String g : grouped) {
                if (typeOf(g.substring(g.indexOf('.') + 1)) == type) return g;
            }
            return literal(type);
        }
        if (seen.isEmpty()) return chance(97) ? literal(type) : "a";
        return refOf(seen.get(chance(70) ? seen.size() - 1 : upTo(seen.size())), type);
    }

    // ---- expressions

    private String condition(int depth) {
        if (chance(55)) return comparison(depth);
        if (chance(60)) return comparison(depth) + " and " + comparison(depth);
        return expr('i', depth);
    }

    private String comparison(int depth) {
        char type = chance(65) ? 'i' : 't';
        String left = ref(type);
        String other = chance(65) ? literal(type) : chance(50) ? ref(type) : expr(type, Math.max(0, depth - 1));
        String op = oneOf("=", "=", "<", ">", "<=", ">=", "<>");
        switch (upTo(10)) {
            case 0: return left + " between " + literal(type) + " and " + other;
            case 1: return other + op + left;
            case 2: return "(" + left + ")" + op + "(" + other + ")";
            case 3: return left + oneOf(" in (", " not in (") + literal(type) + "," + other + ")";
            default: return left + op + other;
        }
    }

    private String expr(char wanted, int depth) {
        char type = chance(1) ? (wanted == 'i' ? 't' : 'i') : wanted;
        if (depth <= 0 || chance(25)) return leaf(type);
        if (grouped != null && chance(50)) return aggregate(type, depth);
        int d = depth - 1;
        if (chance(8)) return "(" + query(d, "" + type, false) + ")";
        if (chance(6)) return "case when " + condition(d) + " then " + expr(type, d) + (chance(30) ? " when " + expr('i', d) + " then " + expr(type, d) : "")
            + (chance(60) ? " else " + expr(type, d) : "") + " end";
        if (chance(6)) return "coalesce(" + expr(type, d) + "," + expr(type, d) + ")";
        if (type == 't') return chance(60) ? expr('t', d) + "||" + expr('t', d) : "substr(" + expr('t', d) + "," + expr('i', d) + "," + expr('i', d) + ")";
        switch (upTo(17)) {
            case 0: case 1: return expr('i', d) + oneOf("+", "-", "*", "/", "%") + expr('i', d);
            case 2: return "(" + expr('i', d) + oneOf(" and ", " or ") + expr('i', d) + ")";
            case 3: return "(not " + leaf('i') + ")";
            case 4: return "-" + leaf('i');
            case 5: return "(" + leaf(type == 'i' && chance(50) ? 'i' : 't') + " is " + oneOf("", "not ") + "null)";
            case 6: return "(" + leaf('i') + oneOf("", " not") + " between " + expr('i', d) + " and " + expr('i', d) + ")";
            case 7: return "(" + leaf('i') + oneOf("", " not") + " in (" + expr('i', d) + "," + expr('i', d) + "))";
            case 8: return "(" + leaf('i') + oneOf("", " not") + " in (" + query(d, "i", false) + "))";
            case 9: return "(" + leaf('t') + oneOf("", " not") + " in (" + query(d, "t", false) + "))";
            case 10: return "(" + expr('t', d) + oneOf("", " not") + " like " + oneOf("'%x%'", "'_'", "'%'", "'x%'", expr('t', d)) + ")";
            case 11: return "length(" + expr('t', d) + ")";
            case 12: return "abs(" + expr('i', d) + ")";
            case 13: return "exists (" + query(d, null, false) + ")";
            case 14: return aggregate(type, depth);
            default: return "(" + comparison(d) + ")";
        }
    }

    private String aggregate(char type, int depth) {
        if (grouped == null && chance(90)) return leaf(type);
        if (type == 'i' && chance(30)) return "count(*)";
        List<String> ahead = grouped;
        grouped = null;
        String inside = expr(type, depth - 1);
        grouped = ahead;
        String call = type == 'i' ? oneOf("count", "sum", "min", "max") : oneOf("min", "max");
        return call + "(" + (chance(25) ? "distinct " : "") + inside + ")";
    }

    private String leaf(char type) {
        if (chance(3)) return type == 'i' ? "?" : "$";
        if (chance(55)) return ref(type);
        return literal(type);
    }
}
