import java.util.ArrayList;
import java.util.Collections;
import java.util.LinkedHashMap;
import java.util.List;
import java.util.Map;
import java.util.Objects;
import java.util.Random;
import java.util.Set;
import java.util.StringJoiner;

/**
 * Promises 4 to 37 and 49: statements at random that know tables and types, so that few of them are errors, and whose
 * conditions are made for indices of several columns; the answers are compared with those of PlainStore. With three numbers
 * behind it, it makes so many runs from a seed on, each of so many statements.
 */
public final class PlainDataTest {
    private record Column(String name, char type) {}

    private record Source(String called, List<Column> columns) {}

    private record Ref(String text, char type) {}

    /** What is seen at a place: its sources, and what refs may stand in items. */
    private static final class Place {
        final List<Source> sources = new ArrayList<>();
        /** The refs behind group by; null for a core that is not grouped. */
        List<Ref> group;
        boolean inItem;
        boolean inAggregate;

        boolean isGroupAsked() {
            return group != null && inItem && !inAggregate;
        }
    }

    private final Random random;
    private final Both both = new Both();
    private final Map<String, List<Column>> tables = new LinkedHashMap<>();
    private final Map<String, List<Column>> views = new LinkedHashMap<>();
    /** Columns that references may name, as table(column). */
    private final Map<String, List<Ref>> uniques = new LinkedHashMap<>();
    private List<Place> places = new ArrayList<>();
    private int parameters;
    private boolean noParameters;
    private boolean noQueries;
    /** How many different values there are, and how often texts are long, refs wrong, and statements those of transactions. */
    private final int domain;
    private final int longTexts;
    private final int wrongRefs;
    private final int transactions;

    private PlainDataTest(long seed) {
        random = new Random(seed);
        domain = 5 + random.nextInt(12);
        longTexts = random.nextInt(4) == 0 ? 60 : random.nextInt(15);
        wrongRefs = random.nextInt(3);
        transactions = random.nextInt(3) == 0 ? 30 : 4;
    }

    public static void main(String[] args) {
        int first = args.length > 0 ? Integer.parseInt(args[0]) : 1;
        int count = args.length > 1 ? Integer.parseInt(args[1]) : 12;
        int statements = args.length > 2 ? Integer.parseInt(args[2]) : 250;
        for (int seed = first; seed < first + count && Db.wrong <= 5; seed++) {
            PlainDataTest test = new PlainDataTest(seed);
            for (int i = 0; i < statements && test.both.right; i++) test.act();
            if (!test.both.right) System.out.println("seed " + seed + test.both.done);
        }
        if (args.length > 0) System.out.println(Both.COUNTS);
        Db.end();
    }

    // ---- chances

    private int upTo(int n) {
        return random.nextInt(n);
    }

    private boolean chance(int percent) {
        return random.nextInt(100) < percent;
    }

    private String oneOf(String... texts) {
        return texts[upTo(texts.length)];
    }

    private <T> T oneOf(List<T> list) {
        return list.get(upTo(list.size()));
    }

    private String nameOf(Map<String, ?> map) {
        return oneOf(new ArrayList<>(map.keySet()));
    }

    private String text() {
        if (chance(longTexts)) {
            char sign = "abcd".charAt(upTo(4));
            StringBuilder b = new StringBuilder();
            for (int i = 12 + upTo(13); i > 0; i--) b.append(chance(90) ? sign : 'e');
            return b.toString();
        }
        int i = upTo(domain);
        return i < 8 ? new String[] {"", "a", "b", "ab", "aa", "a%", "_b", "it's"}[i] : "k" + i;
    }

    private String literal(char type) {
        if (chance(5)) return "null";
        if (!noParameters && parameters < 12 && chance(6)) {
            parameters++;
            return type == 'i' ? "?" : "$";
        }
        if (type == 't') return "'" + text().replace("'", "''") + "'";
        long n = Both.number(random, domain);
        // A number has at most 18 digits.
        if (n / 1000000000000000000L != 0) n >>= 8;
        return n < 0 ? "-" + -n : "" + n;
    }

    // ---- statements

    private void act() {
        parameters = 0;
        places.clear();
        if (tables.isEmpty() || tables.size() < 3 && chance(15) || chance(1)) {
            createTable();
        } else if (chance(transactions)) {
            if (chance(40)) both.use(upTo(3));
            else run(oneOf("begin", "begin", "commit", "commit", "rollback", "savepoint p", "savepoint q", "rollback to p", "rollback to q", "release p"));
        } else {
            statement(nameOf(tables));
        }
        if (chance(1) && chance(30)) crash();
        keepNames();
        both.digest();
    }

    private void statement(String table) {
        List<Column> columns = tables.get(table);
        int kind = upTo(100);
        if (kind < 6) both.same("checkpoint", both.store::checkpoint, both.plain::checkpoint);
        else if (kind < 10) run("create " + oneOf("", "", "unique ") + "index " + oneOf("i", "j", "k", "l") + " on " + table + "(" + some(columns, 3) + ")");
        else if (kind < 12) createView();
        else if (kind < 14) run(oneOf("drop table " + table, "drop index " + oneOf("i", "j", "k", "l"), "drop view " + oneOf("v", "vv")));
        else if (kind < 36) insert(table, columns);
        else if (kind < 44) update(table, columns);
        else if (kind < 48) run("delete from " + table + (chance(95) ? " where " + whereOf(placeOf(table, columns)) : ""));
        else run(query(1 + upTo(3), oneOf("i", "t", "it", "ti", "iti"), false));
    }

    private void crash() {
        int lost = chance(50) ? 0 : upTo(both.store.unsafeBytes() + 1);
        int copied = lost > 0 ? 0 : upTo(4);
        both.same("crash " + lost + " " + copied, () -> both.store.crash(lost, copied), () -> both.plain.crash(lost, copied));
        both.same("open", both.store::open, both.plain::open);
    }

    /** Forgets the tables and views that are not there for the client in use. */
    private void keepNames() {
        Set<String> names = both.plain.tables().keySet();
        tables.keySet().retainAll(names);
        views.keySet().retainAll(names);
        uniques.keySet().retainAll(names);
    }

    private boolean run(String text) {
        int slot = upTo(3);
        if (text.length() > 800 || !Objects.equals(both.prepare(slot, text), 0)) return false;
        for (int i = 0; i < both.plain.parameters(slot); i++) {
            if (chance(94)) both.bind(slot, i, Both.number(random, domain), text());
        }
        both.indices(slot);
        return Objects.equals(both.run(slot), 0);
    }

    private void createTable() {
        String name = oneOf("t", "u", "w", "m");
        List<Column> columns = new ArrayList<>();
        for (int i = 2 + upTo(4); i > 0; i--) {
            int at = columns.size();
            columns.add(new Column("abcdef".substring(at, at + 1), at == 0 || at > 1 && chance(60) ? 'i' : 't'));
        }
        List<Ref> own = new ArrayList<>();
        StringJoiner parts = new StringJoiner(",", "create table " + name + " (", ")");
        noParameters = true;
        noQueries = true;
        for (Column c : columns) parts.add(column(name, c, own));
        for (int i = chance(60) ? 0 : 1 + upTo(2); i > 0; i--) {
            if (chance(50)) parts.add("unique(" + some(columns, 3) + ")");
            else parts.add("check(a is null or " + conditionOf(name, columns) + ")");
        }
        noParameters = false;
        noQueries = false;
        if (!run(parts.toString())) return;
        tables.put(name, columns);
        uniques.put(name, own);
    }

    private String conditionOf(String name, List<Column> columns) {
        placeOf(name, columns);
        String condition = condition(0);
        places.clear();
        return condition;
    }

    private String column(String table, Column c, List<Ref> own) {
        StringBuilder b = new StringBuilder(c.name + (c.type == 'i' ? " int" : " text"));
        if (chance(6)) b.append(" not null");
        if (chance(c.name.equals("a") ? 50 : 12)) {
            b.append(" unique");
            own.add(new Ref(table + "(" + c.name + ")", c.type));
        }
        if (chance(12)) b.append(" default ").append(literal(c.type));
        List<Ref> targets = new ArrayList<>(own);
        for (List<Ref> refs : uniques.values()) targets.addAll(refs);
        targets.removeIf(r -> r.type != c.type);
        if (targets.isEmpty() || chance(75)) return b.toString();
        return b + " references " + oneOf(targets).text + oneOf("", " on delete cascade", " on delete cascade", " on delete set null", " on delete set null");
    }

    private String some(List<Column> columns, int most) {
        List<Column> list = new ArrayList<>(columns);
        Collections.shuffle(list, random);
        StringJoiner names = new StringJoiner(",");
        for (int i = 1 + upTo(Math.min(most, list.size())); i > 0; i--) names.add(list.get(i - 1).name);
        return names.toString();
    }

    private void createView() {
        String name = oneOf("v", "vv");
        String types = oneOf("i", "it", "itt", "iti");
        noParameters = true;
        String query = query(2, types, true);
        noParameters = false;
        if (run("create view " + name + " as " + query)) views.put(name, columnsOf(types));
    }

    /** The columns of a query that was made with names. */
    private static List<Column> columnsOf(String types) {
        List<Column> columns = new ArrayList<>();
        for (int i = 0; i < types.length(); i++) columns.add(new Column("c" + i, types.charAt(i)));
        return columns;
    }

    private void insert(String table, List<Column> all) {
        StringBuilder b = new StringBuilder("insert " + oneOf("", "", "", "or ignore ", "or ignore ", "or replace ") + "into " + table);
        List<Column> columns = new ArrayList<>(all);
        if (chance(20)) {
            Collections.shuffle(columns, random);
            while (columns.size() > 1 && chance(30)) columns.remove(0);
            StringJoiner names = new StringJoiner(",", "(", ")");
            for (Column c : columns) names.add(c.name);
            b.append(names);
        }
        if (chance(20)) {
            StringBuilder types = new StringBuilder();
            for (Column c : columns) types.append(c.type);
            run(b + " " + query(2, types.toString(), false));
            return;
        }
        StringJoiner rows = new StringJoiner(",", " values ", "");
        for (int i = chance(40) ? 1 : 1 + upTo(8); i > 0; i--) {
            StringJoiner row = new StringJoiner(",", "(", ")");
            for (Column c : columns) row.add(chance(93) ? literal(c.type) : expression(c.type, 1));
            rows.add(row.toString());
        }
        run(b.append(rows).toString());
    }

    private void update(String table, List<Column> columns) {
        Source source = placeOf(table, columns);
        StringJoiner settings = new StringJoiner(",", "update " + table + " set ", "");
        for (String name : some(columns, 2).split(",")) {
            char type = 'i';
            for (Column c : columns) {
                if (c.name.equals(name)) type = c.type;
            }
            settings.add(name + "=" + (chance(50) ? literal(type) : expression(type, 2)));
        }
        run(settings + (chance(90) ? " where " + whereOf(source) : ""));
    }

    /** Lets a table be all that is seen. */
    private Source placeOf(String table, List<Column> columns) {
        Source source = new Source(table, columns);
        Place place = new Place();
        place.sources.add(source);
        places.clear();
        places.add(place);
        return source;
    }

    private String whereOf(Source source) {
        return chance(70) ? bounds(source, 1) : condition(2);
    }

    // ---- queries

    private String query(int depth, String types, boolean named) {
        int cores = chance(88) ? 1 : 2 + upTo(2);
        StringBuilder b = new StringBuilder();
        for (int i = 0; i < cores; i++) {
            if (i > 0) b.append(oneOf(" union ", " union all ", " except ", " intersect "));
            b.append(core(cores > 1 ? Math.min(depth, 1) : depth, types, named && i == 0));
        }
        if (chance(35)) {
            b.append(" order by ");
            for (int i = 1 + upTo(2); i > 0; i--) {
                int column = upTo(types.length());
                b.append(named && chance(50) ? "c" + column : column + 1).append(oneOf("", " desc")).append(i > 1 ? "," : "");
            }
        }
        if (chance(15)) b.append(" limit ").append(many()).append(chance(40) ? " offset " + many() : "");
        return b.toString();
    }

    private String many() {
        if (noParameters || parameters > 11 || chance(85)) return "" + upTo(6);
        parameters++;
        return "?";
    }

    private String core(int depth, String types, boolean named) {
        Place place = new Place();
        places.add(place);
        StringBuilder from = new StringBuilder();
        int count = chance(6) ? 0 : chance(60) ? 1 : chance(75) ? 2 : 3;
        for (int i = 0; i < count; i++) from.append(i == 0 ? " from " : "").append(source(place, i, depth));
        int less = Math.max(0, depth - 1);
        if (count > 0 && chance(65)) from.append(" where ").append(chance(70) ? bounds(oneOf(place.sources), less) : condition(depth));
        if (count > 0 && chance(25)) from.append(groupBy(place));
        place.inItem = true;
        StringJoiner items = new StringJoiner(",", chance(15) ? "select distinct " : "select ", "");
        for (int i = 0; i < types.length(); i++) {
            // Without group by, it is an aggregate that makes the core a grouped one.
            boolean isFirst = i == 0 && place.group != null && place.group.isEmpty();
            String item = isFirst ? aggregate(types.charAt(i), Math.max(1, depth), place) : expression(types.charAt(i), depth);
            items.add(named ? item + " as c" + i : item);
        }
        if (place.group != null && chance(40)) from.append(" having ").append(condition(depth));
        places.remove(places.size() - 1);
        return items.toString() + from;
    }

    private String groupBy(Place place) {
        List<Ref> group = new ArrayList<>();
        StringJoiner told = new StringJoiner(",", " group by ", "");
        for (int i = chance(75) ? 1 + upTo(2) : 0; i > 0; i--) {
            Source s = oneOf(place.sources);
            Column c = oneOf(s.columns);
            told.add(s.called + "." + c.name);
            group.add(new Ref(nameIn(places.size() - 1, s, c), c.type));
        }
        place.group = group;
        return group.isEmpty() ? "" : told.toString();
    }

    private String source(Place place, int i, int depth) {
        String join = i == 0 ? "" : oneOf(",", " join ", " left join ", " left join ");
        int less = Math.max(0, depth - 1);
        Source source;
        String text;
        if (depth > 0 && chance(10)) {
            String types = oneOf("i", "it", "iti", "ii");
            source = new Source("q" + i, columnsOf(types));
            List<Place> kept = places;
            places = new ArrayList<>();
            text = "(" + query(depth - 1, types, true) + ") q" + i;
            places = kept;
        } else {
            Map<String, List<Column>> from = !views.isEmpty() && chance(15) ? views : tables;
            String name = nameOf(from);
            boolean isCalledSo = false;
            for (Source s : place.sources) isCalledSo |= s.called.equals(name);
            String called = isCalledSo || chance(40) ? oneOf("x", "y", "z") + i : name;
            source = new Source(called, from.get(name));
            text = called.equals(name) ? name : name + " " + called;
        }
        place.sources.add(source);
        if (!join.endsWith("join ")) return join + text;
        return join + text + " on " + (chance(75) ? bounds(source, less) : condition(less));
    }

    // ---- expressions

    /** A name by which a column of a place is meant where the innermost place is. */
    private String nameIn(int place, Source source, Column column) {
        int count = 0;
        for (Place p : places.subList(place, places.size())) {
            for (Source s : p.sources) {
                for (Column c : s.columns) count += c.name.equals(column.name) ? 1 : 0;
            }
        }
        return count == 1 && chance(50) ? column.name : source.called + "." + column.name;
    }

    private String ref(char type) {
        for (int i = 0; i < 4 && !places.isEmpty(); i++) {
            int at = places.size() - 1;
            while (at > 0 && chance(25)) at--;
            Place place = places.get(at);
            List<Ref> fitting = new ArrayList<>();
            if (place.isGroupAsked() && !chance(wrongRefs)) {
                fitting.addAll(place.group);
                fitting.removeIf(r -> r.type != type);
            } else if (!place.sources.isEmpty()) {
                Source s = oneOf(place.sources);
                for (Column c : s.columns) {
                    if (c.type == type || chance(wrongRefs)) fitting.add(new Ref(nameIn(at, s, c), type));
                }
            }
            if (!fitting.isEmpty()) return oneOf(fitting).text;
        }
        return literal(type);
    }

    private String expression(char type, int depth) {
        if (depth <= 0 || chance(30)) return chance(65) ? ref(type) : literal(type);
        Place place = places.isEmpty() ? null : places.get(places.size() - 1);
        if (place != null && place.isGroupAsked() && chance(45)) return aggregate(type, depth, place);
        int less = depth - 1;
        if (!noQueries && chance(8)) return "(" + query(less, "" + type, false) + ")";
        if (chance(8)) return cases(type, less);
        if (chance(8)) return "coalesce(" + expression(type, less) + "," + expression(type, less) + ")";
        return type == 't' ? textExpression(less) : intExpression(less);
    }

    private String textExpression(int depth) {
        switch (upTo(4)) {
            case 0: return "(" + expression('t', depth) + "||" + expression('t', depth) + ")";
            case 1: return "substr(" + expression('t', depth) + "," + expression('i', depth) + "," + expression('i', depth) + ")";
            default: return ref('t');
        }
    }

    private String intExpression(int depth) {
        switch (upTo(10)) {
            case 0: return "(" + expression('i', depth) + oneOf("+", "-", "*", "/", "%") + expression('i', depth) + ")";
            case 1: return "length(" + expression('t', depth) + ")";
            case 2: return "abs(" + expression('i', depth) + ")";
            case 3: return "(-" + ref('i').replace("-", "") + ")";
            case 4: return expression('i', depth) + oneOf("+", "-", "*") + ref('i');
            case 5: case 6: return "(" + condition(depth) + ")";
            default: return ref('i');
        }
    }

    private String cases(char type, int depth) {
        StringBuilder b = new StringBuilder("case");
        for (int i = 1 + upTo(2); i > 0; i--) b.append(" when ").append(condition(depth)).append(" then ").append(expression(type, depth));
        return b + (chance(60) ? " else " + expression(type, depth) : "") + " end";
    }

    private String aggregate(char type, int depth, Place place) {
        if (type == 'i' && chance(25)) return "count(*)";
        String call = type == 'i' ? oneOf("count", "sum", "sum", "min", "max") : oneOf("min", "max");
        place.inAggregate = true;
        String inside = expression(call.equals("count") && chance(50) ? 't' : type, depth - 1);
        place.inAggregate = false;
        return call + "(" + (chance(30) ? "distinct " : "") + inside + ")";
    }

    private String condition(int depth) {
        int less = depth - 1;
        if (depth > 0 && chance(26)) {
            if (chance(55)) return condition(less) + " and " + condition(less);
            return chance(60) ? "(" + condition(less) + " or " + condition(less) + ")" : "(not (" + condition(less) + "))";
        }
        char type = chance(65) ? 'i' : 't';
        String left = chance(80) ? ref(type) : "(" + expression(type, depth) + ")";
        String right = chance(50) ? literal(type) : chance(60) ? ref(type) : "(" + expression(type, less) + ")";
        switch (upTo(12)) {
            case 0: return left + oneOf("", "", " not") + " between " + literal(type) + " and " + right;
            case 1: return left + " is " + oneOf("", "not ") + "null";
            case 2: return left + oneOf("", " not") + " in (" + literal(type) + "," + right + ")";
            case 3: return ref('t') + oneOf("", " not") + " like " + oneOf("'a%'", "'%b'", "'_'", "'%'", "'%a%'", ref('t'));
            case 4: return noQueries || depth < 1 ? left + "=" + right : left + oneOf("", " not") + " in (" + query(less, "" + type, false) + ")";
            case 5: return noQueries || depth < 1 ? left + "<>" + right : oneOf("", "not ") + "exists (" + query(less, "i", false) + ")";
            default: return left + oneOf("=", "=", "=", "<", ">", "<=", ">=", "<>") + right;
        }
    }

    /** Up to three parts joined by and, each of which bounds a column of a source. */
    private String bounds(Source source, int depth) {
        List<String> parts = new ArrayList<>();
        for (int i = 1 + upTo(3); i > 0; i--) parts.add(chance(93) ? bound(source) : condition(depth));
        if (parts.size() == 3 && chance(30)) return parts.get(0) + " and (" + parts.get(1) + " and " + parts.get(2) + ")";
        return String.join(" and ", parts);
    }

    private String bound(Source source) {
        Column c = oneOf(source.columns);
        int at = places.size() - 1;
        String column = nameIn(at, source, c);
        String other = chance(45) ? literal(c.type) : ref(c.type);
        if (chance(15)) other = "(" + other + (c.type == 'i' ? "+" + literal('i') : "||''") + ")";
        if (chance(10)) column = "(" + column + ")";
        switch (upTo(7)) {
            case 0: return column + " between " + other + " and " + literal(c.type);
            case 1: return other + oneOf("<", "<=", ">", ">=") + column;
            case 2: return column + oneOf("<", "<=", ">", ">=") + other;
            default: return chance(50) ? column + "=" + other : other + "=" + column;
        }
    }
}
