import java.math.BigInteger;
import java.util.ArrayList;
import java.util.Comparator;
import java.util.List;
import java.util.Set;
import java.util.TreeMap;
import java.util.function.Supplier;
import java.util.regex.Matcher;
import java.util.regex.Pattern;

/**
 * The document once more in its plainest form: lists, maps and texts, with everything reckoned anew at each call. Tests
 * compare SqlStore with it, call by call.
 */
final class PlainStore {
    /** An error of a statement. */
    private static final class Wrong extends RuntimeException {
        private static final long serialVersionUID = 1;
        final int error;
        final int place;

        Wrong(int error, int place) {
            this.error = error;
            this.place = place;
        }
    }

    /** The end of a statement with a code. */
    private static final class Stop extends RuntimeException {
        private static final long serialVersionUID = 1;
        final int code;

        Stop(int code) {
            this.code = code;
        }
    }

    // ---- tokens

    private record Token(String kind, String text, int at, int end) {}

    private static final Set<String> KEYWORDS = Set.of(("abs all and as begin between by cascade case check coalesce commit count"
        + " create default delete desc distinct drop else end except exists from group having ignore in index insert int intersect into"
        + " is join left length like limit max min not null offset on or order references release replace rollback savepoint select set"
        + " substr sum table text then to union unique update values view when where").split(" "));
    private static final Pattern WORD = Pattern.compile("[a-z][a-z0-9_]*");
    private static final Pattern DIGITS = Pattern.compile("[0-9]+");
    private static final Pattern QUOTED = Pattern.compile("'(?:[ -&(-~]|'')*+'");
    private static final Pattern SIGN = Pattern.compile("<=|>=|<>|\\|\\||[(),.*+\\-/%=<>?$]");

    private static List<Token> tokens(String text) {
        List<Token> list = new ArrayList<>();
        int at = 0;
        while (true) {
            while (at < text.length() && (text.charAt(at) == ' ' || text.charAt(at) == '\n')) at++;
            Token token = at == text.length() ? new Token("END", "", at, at) : token(text, at);
            list.add(token);
            if (token.kind.equals("END") || token.kind.equals("WRONG")) return list;
            at = token.end;
        }
    }

    private static Token token(String text, int at) {
        String word = at(WORD, text, at);
        String digits = at(DIGITS, text, at);
        String quoted = at(QUOTED, text, at);
        String sign = at(SIGN, text, at);
        if (word != null && word.length() <= 10) return new Token(KEYWORDS.contains(word) ? word : "NAME", word, at, at + word.length());
        if (digits != null && digits.length() <= 18) return new Token("NUMBER", digits, at, at + digits.length());
        if (quoted != null) {
            String inside = quoted.substring(1, quoted.length() - 1).replace("''", "'");
            if (inside.length() <= 24) return new Token("QUOTED", inside, at, at + quoted.length());
        }
        if (sign != null) return new Token(sign, sign, at, at + sign.length());
        return new Token("WRONG", "", at, at);
    }

    private static String at(Pattern pattern, String text, int at) {
        Matcher m = pattern.matcher(text).region(at, text.length());
        return m.lookingAt() ? m.group() : null;
    }

    // ---- what texts are read as

    private static final class Expr {
        final String op;
        final int at;
        final List<Expr> parts = new ArrayList<>();
        final List<Integer> whens = new ArrayList<>();
        int begin;
        Object value;
        int parameter;
        boolean not;
        boolean distinct;
        boolean star;
        Query query;
        String first;
        String second;
        int secondAt;
        // As it was checked:
        String type = "null";
        Source source;
        int column;
        Core core;
        /** Whether it tells a value of a group. */
        boolean ofGroup;

        Expr(String op, int at, Expr... parts) {
            this.op = op;
            this.at = at;
            this.begin = at;
            this.parts.addAll(List.of(parts));
        }

        int height() {
            int most = 0;
            if (op.equals("query") || op.equals("exists")) return 1;
            for (Expr e : parts) most = Math.max(most, e.height());
            return most + 1;
        }
    }

    private record Name(String text, int at) {}

    private record Key(Token token, boolean desc) {}

    private record Item(int at, Expr expr, String as) {}

    private static final class Query {
        final List<Core> cores = new ArrayList<>();
        final List<String> joins = new ArrayList<>();
        List<Key> keys = List.of();
        Expr limit;
        Expr offset;
        List<String> names;
        List<String> types;

        int at() {
            return cores.get(0).at;
        }
    }

    private static final class Core {
        int at;
        boolean distinct;
        List<Item> items;
        List<Source> sources = List.of();
        Expr where;
        int whereAt;
        List<Expr> groupBy = List.of();
        Expr having;
        int havingAt;
        List<String> names;
        List<String> types;
        Group group;

        boolean isGrouped() {
            return !groupBy.isEmpty() || having != null || !aggregates().isEmpty();
        }

        List<Expr> aggregates() {
            List<Expr> list = new ArrayList<>();
            for (Item i : items) addAggregates(i.expr, list);
            for (Source s : sources) addAggregates(s.on, list);
            addAggregates(where, list);
            addAggregates(having, list);
            return list;
        }

        private static void addAggregates(Expr e, List<Expr> list) {
            if (e == null) return;
            if (isAggregate(e)) list.add(e);
            for (Expr p : e.parts) addAggregates(p, list);
        }
    }

    private static boolean isAggregate(Expr e) {
        return Set.of("count", "sum", "min", "max").contains(e.op);
    }

    private static final class Source {
        String join = ",";
        int at;
        String table;
        Query query;
        String called;
        int calledAt;
        Expr on;
        int onAt;
        // As it was checked:
        Definition definition;
        List<String> names;
        List<String> types;
        Core core;
        /** The conditions that count for it. */
        List<Expr> conditions = List.of();
        List<Object[]> list;
        Object[] row;
    }

    private static final class Column {
        String name;
        int at;
        String type;
        boolean notNull;
        boolean unique;
        int defaultAt;
        Object value;
        Name target;
        Name targetColumn;
        String action = "";
    }

    private record Rule(int at, List<Name> names, Expr check) {}

    private record Row(int at, List<Expr> exprs) {}

    private record Setting(Name column, Expr expr) {}

    private static final class Statement {
        String kind;
        String mode = "";
        Name name;
        Name target;
        final List<Column> columns = new ArrayList<>();
        final List<Rule> rules = new ArrayList<>();
        List<Name> names;
        List<Row> rows;
        Query query;
        List<Setting> settings;
        Expr where;
        int whereAt;
        Source source;
        String parameters = "";
        String text;
        /** The sources of its text that are names. */
        final List<Source> named = new ArrayList<>();

        boolean isTransaction() {
            return Set.of("begin", "commit", "rollback", "savepoint", "release").contains(kind);
        }
    }

    private static final class Reader {
        private final List<Token> tokens;
        private final List<Expr> made = new ArrayList<>();
        private final Statement statement = new Statement();
        private int i;
        private int open;

        Reader(String text) {
            tokens = tokens(text);
        }

        static Statement read(String text) {
            Reader r = new Reader(text);
            r.statement();
            if (!r.is("END")) r.fail();
            int tall = Integer.MAX_VALUE;
            for (Expr e : r.made) {
                if (e.height() > 16) tall = Math.min(tall, e.at);
            }
            if (tall < Integer.MAX_VALUE) throw new Wrong(2, tall);
            r.statement.text = text.substring(r.tokens.get(0).at, r.tokens.get(r.tokens.size() - 2).end);
            return r.statement;
        }

        private Token token() {
            return tokens.get(i);
        }

        private int at() {
            return token().at;
        }

        private boolean is(String... kinds) {
            return List.of(kinds).contains(token().kind);
        }

        private <T> T fail() {
            throw new Wrong(1, at());
        }

        private boolean pass(String kind) {
            if (is(kind)) i++;
            else return false;
            return true;
        }

        private void need(String kind) {
            if (!pass(kind)) fail();
        }

        private Name name() {
            Token t = token();
            need("NAME");
            return new Name(t.text, t.at);
        }

        private void open() {
            if (!is("(") || open == 8) fail();
            open++;
            i++;
        }

        private void close() {
            need(")");
            open--;
        }

        private <T> List<T> list(int most, Supplier<T> one) {
            List<T> list = new ArrayList<>();
            do {
                if (list.size() == most) fail();
                list.add(one.get());
            } while (pass(","));
            return list;
        }

        private <T> T inBrackets(Supplier<T> what) {
            open();
            T t = what.get();
            close();
            return t;
        }

        private void statement() {
            Statement s = statement;
            s.kind = token().kind;
            switch (s.kind) {
                case "select" -> s.query = query();
                case "begin", "commit" -> i++;
                case "rollback" -> {
                    i++;
                    if (pass("to")) s.name = name();
                }
                case "savepoint", "release" -> {
                    i++;
                    s.name = name();
                }
                case "create" -> create();
                case "drop" -> {
                    i++;
                    if (!is("table", "index", "view")) fail();
                    s.mode = token().kind;
                    i++;
                    s.name = name();
                }
                case "insert" -> insert();
                case "update" -> update();
                case "delete" -> {
                    i++;
                    need("from");
                    target();
                    where();
                }
                default -> fail();
            }
        }

        private void create() {
            i++;
            if (pass("unique")) {
                statement.mode = "unique";
                if (!is("index")) fail();
            }
            if (!is("table", "index", "view")) fail();
            statement.kind = "create " + token().kind;
            i++;
            statement.name = name();
            if (statement.kind.equals("create view")) {
                need("as");
                statement.query = query();
            } else if (statement.kind.equals("create index")) {
                need("on");
                statement.target = name();
                statement.names = inBrackets(() -> list(3, this::name));
            } else {
                inBrackets(this::columnsAndRules);
            }
        }

        private boolean columnsAndRules() {
            statement.columns.add(column());
            while (pass(",")) {
                if (is("unique", "check")) {
                    if (statement.rules.size() == 4) fail();
                    statement.rules.add(rule());
                } else {
                    if (!statement.rules.isEmpty() || statement.columns.size() == 6) fail();
                    statement.columns.add(column());
                }
            }
            return true;
        }

        private Column column() {
            Column c = new Column();
            c.at = at();
            c.name = name().text;
            if (!is("int", "text")) fail();
            c.type = token().kind;
            i++;
            if (pass("not")) {
                need("null");
                c.notNull = true;
            }
            c.unique = pass("unique");
            if (is("default")) {
                c.defaultAt = at();
                i++;
                c.value = literal();
            }
            if (!pass("references")) return c;
            c.target = name();
            c.targetColumn = inBrackets(this::name);
            if (!pass("on")) return c;
            need("delete");
            if (pass("cascade")) {
                c.action = "cascade";
                return c;
            }
            need("set");
            need("null");
            c.action = "null";
            return c;
        }

        private Object literal() {
            Token t = token();
            if (pass("NUMBER")) return Long.valueOf(t.text);
            if (pass("QUOTED")) return t.text;
            if (pass("null")) return null;
            need("-");
            t = token();
            need("NUMBER");
            return -Long.parseLong(t.text);
        }

        private Rule rule() {
            int at = at();
            if (pass("unique")) return new Rule(at, inBrackets(() -> list(3, this::name)), null);
            i++;
            return new Rule(at, null, inBrackets(this::expression));
        }

        private void insert() {
            i++;
            if (pass("or")) {
                if (!is("ignore", "replace")) fail();
                statement.mode = token().kind;
                i++;
            }
            need("into");
            statement.target = name();
            if (is("(")) statement.names = inBrackets(() -> list(999, this::name));
            if (pass("values")) statement.rows = list(8, this::row);
            else statement.query = query();
        }

        private Row row() {
            int at = at();
            return new Row(at, inBrackets(this::expressions));
        }

        private List<Expr> expressions() {
            return list(999, this::expression);
        }

        private void update() {
            i++;
            target();
            need("set");
            statement.settings = list(6, () -> {
                Name n = name();
                need("=");
                return new Setting(n, expression());
            });
            where();
        }

        private void target() {
            statement.target = name();
            Source s = new Source();
            s.at = statement.target.at;
            s.table = statement.target.text;
            s.called = s.table;
            statement.source = s;
            statement.named.add(s);
        }

        private void where() {
            statement.whereAt = at();
            if (pass("where")) statement.where = expression();
        }

        private Query query() {
            Query q = new Query();
            q.cores.add(core());
            while (is("union", "except", "intersect")) {
                String join = token().kind;
                i++;
                if (join.equals("union") && pass("all")) join = "all";
                if (q.cores.size() == 4) fail();
                q.joins.add(join);
                q.cores.add(core());
            }
            if (pass("order")) {
                need("by");
                q.keys = list(4, () -> {
                    Token t = token();
                    if (!is("NAME", "NUMBER")) fail();
                    i++;
                    return new Key(t, pass("desc"));
                });
            }
            if (pass("limit")) {
                q.limit = many();
                if (pass("offset")) q.offset = many();
            }
            return q;
        }

        private Expr many() {
            if (!is("NUMBER", "?")) fail();
            return single();
        }

        private Core core() {
            Core c = new Core();
            c.at = at();
            need("select");
            c.distinct = pass("distinct");
            c.items = list(8, this::item);
            if (pass("from")) {
                c.sources = new ArrayList<>();
                c.sources.add(source(","));
                while (is(",", "join", "left")) {
                    String join = token().kind;
                    i++;
                    if (join.equals("left")) need("join");
                    if (c.sources.size() == 4) fail();
                    c.sources.add(source(join));
                }
            }
            c.whereAt = at();
            if (pass("where")) c.where = expression();
            if (pass("group")) {
                need("by");
                c.groupBy = list(4, this::ref);
            }
            c.havingAt = at();
            if (pass("having")) c.having = expression();
            return c;
        }

        private Item item() {
            int at = at();
            if (pass("*")) return new Item(at, null, null);
            Expr e = expression();
            return new Item(at, e, pass("as") ? name().text : null);
        }

        private Source source(String join) {
            Source s = new Source();
            s.join = join;
            s.at = at();
            if (is("(")) {
                s.query = inBrackets(this::query);
                Name n = name();
                s.called = n.text;
                s.calledAt = n.at;
            } else {
                Name n = name();
                s.table = n.text;
                statement.named.add(s);
                if (is("NAME")) n = name();
                s.called = n.text;
                s.calledAt = n.at;
            }
            if (join.equals(",")) return s;
            s.onAt = at();
            need("on");
            s.on = expression();
            return s;
        }

        private Expr made(Expr e) {
            made.add(e);
            return e;
        }

        private Expr ref() {
            Name n = name();
            Expr e = made(new Expr("ref", n.at));
            e.first = n.text;
            if (!pass(".")) return e;
            n = name();
            e.second = n.text;
            e.secondAt = n.at;
            return e;
        }

        private Expr chainOf(Supplier<Expr> part, String... ops) {
            Expr left = part.get();
            while (is(ops)) {
                Token op = token();
                i++;
                left = made(new Expr(op.kind, op.at, left, part.get()));
            }
            return left;
        }

        private Expr expression() {
            int begin = at();
            Expr e = chainOf(this::both, "or");
            e.begin = begin;
            return e;
        }

        private Expr both() {
            return chainOf(this::denied, "and");
        }

        private Expr denied() {
            int at = at();
            return pass("not") ? made(new Expr("not", at, test())) : test();
        }

        private Expr test() {
            Expr left = total();
            Token op = token();
            if (is("=", "<>", "<", "<=", ">", ">=")) {
                i++;
                return made(new Expr(op.kind, op.at, left, total()));
            }
            if (pass("is")) {
                Expr e = made(new Expr("is", op.at, left));
                e.not = pass("not");
                need("null");
                return e;
            }
            boolean not = pass("not");
            op = token();
            if (not && !is("between", "in", "like")) fail();
            Expr e = new Expr(op.kind, op.at, left);
            e.not = not;
            if (pass("between")) {
                e.parts.add(total());
                need("and");
                e.parts.add(total());
            } else if (pass("like")) {
                e.parts.add(total());
            } else if (pass("in")) {
                open();
                if (is("select")) e.query = query();
                else e.parts.addAll(expressions());
                close();
            } else {
                return left;
            }
            return made(e);
        }

        private Expr total() {
            return chainOf(this::product, "+", "-");
        }

        private Expr product() {
            return chainOf(this::texts, "*", "/", "%");
        }

        private Expr texts() {
            return chainOf(this::signed, "||");
        }

        private Expr signed() {
            int at = at();
            return pass("-") ? made(new Expr("minus", at, single())) : single();
        }

        private Expr single() {
            Token t = token();
            Expr e = new Expr(t.kind, t.at);
            switch (t.kind) {
                case "NAME":
                    return ref();
                case "NUMBER":
                    e.value = Long.valueOf(t.text);
                    break;
                case "QUOTED":
                    e.value = t.text;
                    break;
                case "null":
                    break;
                case "?": case "$":
                    if (statement.parameters.length() == 12) fail();
                    e.parameter = statement.parameters.length();
                    statement.parameters += t.kind;
                    break;
                case "(":
                    return brackets();
                case "exists":
                    i++;
                    e.query = inBrackets(this::query);
                    return made(e);
                case "case":
                    return cases();
                case "count": case "sum": case "min": case "max": case "length": case "abs": case "substr": case "coalesce":
                    return call();
                default:
                    fail();
            }
            i++;
            return made(e);
        }

        private Expr brackets() {
            int at = at();
            open();
            Expr e;
            if (is("select")) {
                e = made(new Expr("query", at));
                e.query = query();
            } else {
                e = expression();
            }
            close();
            return e;
        }

        private Expr cases() {
            if (open == 8) fail();
            Expr e = new Expr("case", at());
            open++;
            i++;
            if (!is("when")) fail();
            while (is("when")) {
                e.whens.add(at());
                i++;
                e.parts.add(expression());
                need("then");
                e.parts.add(expression());
            }
            if (pass("else")) e.parts.add(expression());
            need("end");
            open--;
            return made(e);
        }

        private Expr call() {
            Expr e = new Expr(token().kind, at());
            i++;
            open();
            if (e.op.equals("count") && pass("*")) {
                e.star = true;
            } else if (isAggregate(e)) {
                e.distinct = pass("distinct");
                e.parts.add(expression());
            } else if (e.op.equals("coalesce")) {
                e.parts.addAll(expressions());
            } else {
                e.parts.add(expression());
                for (int k = 1; k < (e.op.equals("substr") ? 3 : 1); k++) {
                    need(",");
                    e.parts.add(expression());
                }
            }
            close();
            return made(e);
        }
    }

    // ---- definitions

    private static final class Definition {
        int number;
        int kind;
        List<Integer> roots = new ArrayList<>();
        String text = "";
        Statement statement;

        String name() {
            return statement.name.text;
        }

        int column(String name) {
            for (int i = 0; i < statement.columns.size(); i++) {
                if (statement.columns.get(i).name.equals(name)) return i;
            }
            return -1;
        }
    }

    private record Index(boolean unique, List<Integer> columns, int root) {}

    private static List<Definition> definitions(Pages pages) {
        List<Definition> list = new ArrayList<>();
        for (Cell c : pages.all(1)) {
            if (c.key.charAt(1) == 0) {
                Definition d = new Definition();
                d.number = c.key.charAt(0);
                d.kind = c.payload.charAt(0);
                for (int i = 1; i < c.payload.length(); i++) d.roots.add((int) c.payload.charAt(i));
                list.add(d);
            } else {
                list.get(list.size() - 1).text += c.payload;
            }
        }
        for (Definition d : list) d.statement = Reader.read(d.text);
        return list;
    }

    private static Definition find(List<Definition> list, String name) {
        for (Definition d : list) {
            if (d.name().equals(name)) return d;
        }
        return null;
    }

    private static Definition find(List<Definition> list, String name, int kind) {
        Definition d = find(list, name);
        return d != null && d.kind == kind ? d : null;
    }

    private static List<List<Integer>> uniques(Definition d) {
        List<List<Integer>> list = new ArrayList<>();
        for (int i = 0; i < d.statement.columns.size(); i++) {
            if (d.statement.columns.get(i).unique) list.add(List.of(i));
        }
        for (Rule r : d.statement.rules) {
            if (r.names != null) list.add(columns(d, r.names));
        }
        return list;
    }

    private static List<Integer> columns(Definition d, List<Name> names) {
        List<Integer> list = new ArrayList<>();
        for (Name n : names) list.add(d.column(n.text));
        return list;
    }

    private static List<Definition> created(List<Definition> all, Definition table) {
        List<Definition> list = new ArrayList<>();
        for (Definition d : all) {
            if (d.kind == 2 && d.statement.target.text.equals(table.name())) list.add(d);
        }
        return list;
    }

    private static List<Index> indices(List<Definition> all, Definition table) {
        List<Index> list = new ArrayList<>();
        for (List<Integer> columns : uniques(table)) list.add(new Index(true, columns, table.roots.get(list.size() + 1)));
        for (Definition d : created(all, table)) {
            list.add(new Index(d.statement.mode.equals("unique"), columns(table, d.statement.names), d.roots.get(0)));
        }
        return list;
    }

    // ---- what is checked

    /** What an expression sees: sources of a place, and what it may do there. */
    private record Scope(Core core, List<Source> seen, String part, int level, boolean inRule, Scope outer) {
        Scope as(String newPart) {
            return new Scope(core, seen, newPart, level, inRule, outer);
        }
    }

    private static boolean fit(String a, String b) {
        return a.equals("null") || b.equals("null") || a.equals(b);
    }

    /** The type of things that fit each other; null if they do not. */
    private static String common(List<String> types) {
        String common = "null";
        for (String t : types) {
            if (!fit(common, t)) return null;
            if (common.equals("null")) common = t;
        }
        return common;
    }

    private static final class Checker {
        private final List<Definition> all;
        private boolean creating;
        private int begun;

        Checker(List<Definition> all) {
            this.all = all;
        }

        void check(Statement s) {
            creating = s.kind.startsWith("create");
            switch (s.kind) {
                case "create table" -> table(s);
                case "create index" -> {
                    newName(s);
                    names(target(s), s.names);
                }
                case "create view" -> {
                    newName(s);
                    query(s.query, null, 1);
                    if (!wellNamed(s.query.names)) throw new Wrong(3, s.name.at);
                }
                case "drop" -> {
                    int kind = List.of("", "table", "index", "view").indexOf(s.mode);
                    if (find(all, s.name.text, kind) == null) throw new Wrong(3, s.name.at);
                }
                case "insert" -> insert(s);
                case "update", "delete" -> change(s);
                case "select" -> query(s.query, null, 1);
                default -> { }
            }
        }

        private void newName(Statement s) {
            if (find(all, s.name.text) != null) throw new Wrong(3, s.name.at);
            if (all.size() == 10) throw new Wrong(6, s.name.at);
        }

        private Definition target(Statement s) {
            Definition d = find(all, s.target.text, 1);
            if (d == null) throw new Wrong(3, s.target.at);
            return d;
        }

        private void names(Definition d, List<Name> names) {
            List<String> ahead = new ArrayList<>();
            for (Name n : names) {
                if (d.column(n.text) < 0 || ahead.contains(n.text)) throw new Wrong(3, n.at);
                ahead.add(n.text);
            }
        }

        private static boolean wellNamed(List<String> names) {
            return !names.contains(null) && Set.copyOf(names).size() == names.size();
        }

        private void table(Statement s) {
            newName(s);
            List<String> ahead = new ArrayList<>();
            for (Column c : s.columns) {
                if (ahead.contains(c.name)) throw new Wrong(3, c.at);
                ahead.add(c.name);
                if (!fit(typeOf(c.value), c.type)) throw new Wrong(4, c.defaultAt);
            }
            Definition d = new Definition();
            d.kind = 1;
            d.statement = s;
            Source source = new Source();
            source.called = d.name();
            see(source, d);
            for (Rule r : s.rules) {
                if (r.names != null) {
                    names(d, r.names);
                } else {
                    Scope scope = new Scope(null, List.of(source), "", 0, true, null);
                    if (type(r.check, scope).equals("text")) throw new Wrong(4, r.at);
                }
            }
            for (Column c : s.columns) {
                if (c.target != null) reference(c, d);
            }
        }

        private void reference(Column c, Definition made) {
            Definition d = c.target.text.equals(made.name()) ? made : find(all, c.target.text, 1);
            if (d == null) throw new Wrong(3, c.target.at);
            int column = d.column(c.targetColumn.text);
            if (column < 0) throw new Wrong(3, c.targetColumn.at);
            if (!uniques(d).contains(List.of(column))) throw new Wrong(5, c.targetColumn.at);
            if (!d.statement.columns.get(column).type.equals(c.type)) throw new Wrong(4, c.targetColumn.at);
        }

        private static String typeOf(Object value) {
            return value == null ? "null" : value instanceof Long ? "int" : "text";
        }

        private void see(Source s, Definition d) {
            s.definition = d;
            s.names = new ArrayList<>();
            s.types = new ArrayList<>();
            for (Column c : d.statement.columns) {
                s.names.add(c.name);
                s.types.add(c.type);
            }
        }

        private void insert(Statement s) {
            Definition d = target(s);
            List<String> types = new ArrayList<>();
            if (s.names != null) names(d, s.names);
            for (Column c : d.statement.columns) {
                if (s.names == null) types.add(c.type);
            }
            if (s.names != null) {
                for (Name n : s.names) types.add(d.statement.columns.get(d.column(n.text)).type);
            }
            if (s.query != null) {
                query(s.query, null, 1);
                if (s.query.types.size() != types.size()) throw new Wrong(6, s.query.at());
                for (int i = 0; i < types.size(); i++) {
                    if (!fit(s.query.types.get(i), types.get(i))) throw new Wrong(4, s.query.at());
                }
                return;
            }
            for (Row r : s.rows) {
                if (r.exprs.size() != types.size()) throw new Wrong(6, r.at);
                for (int i = 0; i < types.size(); i++) {
                    Expr e = r.exprs.get(i);
                    if (!fit(type(e, null), types.get(i))) throw new Wrong(4, e.begin);
                }
            }
        }

        private void change(Statement s) {
            Definition d = target(s);
            see(s.source, d);
            Scope scope = new Scope(null, List.of(s.source), "", 0, false, null);
            List<String> ahead = new ArrayList<>();
            for (Setting set : s.settings == null ? List.<Setting>of() : s.settings) {
                if (d.column(set.column.text) < 0 || ahead.contains(set.column.text)) throw new Wrong(3, set.column.at);
                ahead.add(set.column.text);
                String type = d.statement.columns.get(d.column(set.column.text)).type;
                if (!fit(type(set.expr, scope), type)) throw new Wrong(4, set.column.at);
            }
            condition(s.where, s.whereAt, scope);
            s.source.conditions = conjuncts(s.where);
        }

        private void condition(Expr e, int at, Scope scope) {
            if (e != null && type(e, scope).equals("text")) throw new Wrong(4, at);
        }

        private void query(Query q, Scope outer, int level) {
            if (level > 4) throw new Wrong(6, q.at());
            for (Core c : q.cores) {
                core(c, outer, level);
                if (c == q.cores.get(0)) {
                    q.names = c.names;
                    q.types = new ArrayList<>(c.types);
                    continue;
                }
                if (c.types.size() != q.types.size()) throw new Wrong(6, c.at);
                for (int i = 0; i < q.types.size(); i++) {
                    String type = common(List.of(q.types.get(i), c.types.get(i)));
                    if (type == null) throw new Wrong(4, c.at);
                    q.types.set(i, type);
                }
            }
            for (Key k : q.keys) keyColumn(q, k);
            if (q.limit != null) type(q.limit, null);
            if (q.offset != null) type(q.offset, null);
        }

        static int keyColumn(Query q, Key k) {
            if (k.token.kind.equals("NUMBER")) {
                long n = Long.parseLong(k.token.text);
                if (n < 1 || n > q.names.size()) throw new Wrong(3, k.token.at);
                return (int) n - 1;
            }
            int first = q.names.indexOf(k.token.text);
            if (first < 0 || q.names.lastIndexOf(k.token.text) != first) throw new Wrong(3, k.token.at);
            return first;
        }

        private void core(Core c, Scope outer, int level) {
            List<Source> seen = new ArrayList<>();
            for (Source s : c.sources) {
                s.core = c;
                source(s, seen, level);
                seen.add(s);
                condition(s.on, s.onAt, new Scope(c, List.copyOf(seen), "", level, false, outer));
            }
            Scope scope = new Scope(c, c.sources, "", level, false, outer);
            condition(c.where, c.whereAt, scope);
            for (Expr g : c.groupBy) {
                if (!means(g, c.sources)) throw new Wrong(3, g.at);
            }
            c.names = new ArrayList<>();
            c.types = new ArrayList<>();
            for (Item i : c.items) item(i, c, scope.as("item"));
            condition(c.having, c.havingAt, scope.as("item"));
            for (Source s : c.sources) {
                s.conditions = conjuncts(s.on);
                if (!s.join.equals("left")) s.conditions.addAll(conjuncts(c.where));
            }
        }

        private void item(Item i, Core c, Scope scope) {
            if (i.expr == null) {
                if (c.sources.isEmpty() || c.isGrouped()) throw new Wrong(5, i.at);
                for (Source s : c.sources) {
                    c.names.addAll(s.names);
                    c.types.addAll(s.types);
                }
            } else {
                c.types.add(type(i.expr, scope));
                String own = i.expr.op.equals("ref") ? i.expr.second != null ? i.expr.second : i.expr.first : null;
                c.names.add(i.as != null ? i.as : own);
            }
            if (c.names.size() > 8) throw new Wrong(6, i.at);
        }

        private void source(Source s, List<Source> ahead, int level) {
            if (begun == 12) throw new Wrong(6, s.at);
            begun++;
            if (s.table != null) named(s, level);
            else {
                query(s.query, null, level + 1);
                if (!wellNamed(s.query.names)) throw new Wrong(3, s.at);
            }
            if (s.definition == null) {
                s.names = s.query.names;
                s.types = s.query.types;
            }
            for (Source a : ahead) {
                if (a.called.equals(s.called)) throw new Wrong(3, s.calledAt);
            }
        }

        private void named(Source s, int level) {
            Definition d = find(all, s.table);
            if (d == null || d.kind == 2) throw new Wrong(3, s.at);
            if (d.kind == 1) {
                see(s, d);
                return;
            }
            try {
                s.query = Reader.read(d.text).query;
                query(s.query, null, level + 1);
                if (!wellNamed(s.query.names)) throw new Wrong(3, 0);
            } catch (Wrong e) {
                throw new Wrong(3, s.at);
            }
        }

        /** Whether a ref means a column of one of these sources. */
        private static boolean means(Expr e, List<Source> sources) {
            Source found = null;
            for (Source s : sources) {
                if (e.second != null ? !s.called.equals(e.first) : !s.names.contains(e.first)) continue;
                if (found != null) throw new Wrong(3, e.at);
                found = s;
            }
            if (found == null) return false;
            e.source = found;
            e.column = found.names.indexOf(e.second != null ? e.second : e.first);
            if (e.column < 0) throw new Wrong(3, e.secondAt);
            e.type = found.types.get(e.column);
            return true;
        }

        private void ref(Expr e, Scope scope) {
            for (Scope s = scope; s != null; s = s.outer) {
                if (!means(e, s.seen)) continue;
                e.ofGroup = s.part.equals("item") && s.core.isGrouped();
                if (!e.ofGroup) return;
                for (Expr g : s.core.groupBy) {
                    if (g.source == e.source && g.column == e.column) return;
                }
                throw new Wrong(5, e.at);
            }
            throw new Wrong(3, e.at);
        }

        private String type(Expr e, Scope scope) {
            e.type = reckoned(e, scope);
            return e.type;
        }

        private String reckoned(Expr e, Scope scope) {
            switch (e.op) {
                case "NUMBER": return "int";
                case "QUOTED": return "text";
                case "null": return "null";
                case "?": case "$":
                    if (creating) throw new Wrong(5, e.at);
                    return e.op.equals("?") ? "int" : "text";
                case "ref":
                    ref(e, scope);
                    return e.type;
                case "count": case "sum": case "min": case "max": return aggregate(e, scope);
                case "case": return cases(e, scope);
                case "query": case "exists": return inner(e, scope);
                default:
            }
            List<String> types = new ArrayList<>();
            for (Expr p : e.parts) types.add(type(p, scope));
            if (e.query != null) types.add(inner(e, scope));
            return switch (e.op) {
                case "is" -> "int";
                case "||" -> need(e, fitAll(types, "text"), "text");
                case "like", "length" -> need(e, fitAll(types, "text"), "int");
                case "substr" -> need(e, fitAll(types.subList(0, 1), "text") && fitAll(types.subList(1, 3), "int"), "text");
                case "coalesce" -> need(e, common(types) != null, common(types));
                case "=", "<>", "<", "<=", ">", ">=", "between", "in" -> need(e, common(types) != null, "int");
                default -> need(e, fitAll(types, "int"), "int");
            };
        }

        private static boolean fitAll(List<String> types, String wanted) {
            for (String t : types) {
                if (!fit(t, wanted)) return false;
            }
            return true;
        }

        private static String need(Expr e, boolean right, String type) {
            if (!right) throw new Wrong(4, e.at);
            return type;
        }

        private String aggregate(Expr e, Scope scope) {
            if (scope == null || scope.core == null || !scope.part.equals("item")) throw new Wrong(5, e.at);
            e.core = scope.core;
            if (e.star) return "int";
            String type = type(e.parts.get(0), scope.as("aggregate"));
            if (e.op.equals("sum")) return need(e, fit(type, "int"), "int");
            return e.op.equals("count") ? "int" : type;
        }

        private String cases(Expr e, Scope scope) {
            List<String> results = new ArrayList<>();
            for (int i = 0; i < e.parts.size(); i++) {
                boolean condition = i % 2 == 0 && i + 1 < e.parts.size();
                String type = type(e.parts.get(i), scope);
                if (condition && type.equals("text")) throw new Wrong(4, e.whens.get(i / 2));
                if (!condition) results.add(type);
            }
            return need(e, common(results) != null, common(results));
        }

        private String inner(Expr e, Scope scope) {
            if (scope != null && scope.inRule) throw new Wrong(5, e.query.at());
            query(e.query, scope, scope == null ? 1 : scope.level + 1);
            if (e.op.equals("exists")) return "int";
            if (e.query.types.size() != 1) throw new Wrong(6, e.query.at());
            return e.query.types.get(0);
        }
    }

    private static List<Expr> conjuncts(Expr e) {
        List<Expr> list = new ArrayList<>();
        if (e == null) return list;
        if (!e.op.equals("and")) list.add(e);
        else for (Expr p : e.parts) list.addAll(conjuncts(p));
        return list;
    }

    // ---- values

    private static int order(Object a, Object b) {
        if (a == null || b == null) return (a == null ? 0 : 1) - (b == null ? 0 : 1);
        return a instanceof Long n ? n.compareTo((Long) b) : ((String) a).compareTo((String) b);
    }

    private static boolean same(Object[] a, Object[] b) {
        for (int i = 0; i < a.length; i++) {
            if (order(a[i], b[i]) != 0) return false;
        }
        return true;
    }

    private static boolean has(List<Object[]> list, Object[] row) {
        for (Object[] r : list) {
            if (same(r, row)) return true;
        }
        return false;
    }

    private static Long bit(boolean b) {
        return b ? 1L : 0L;
    }

    private static boolean isTrue(Object v) {
        return v != null && (Long) v != 0;
    }

    private static Long fitting(BigInteger n) {
        return n.bitLength() < 64 ? (Long) n.longValue() : null;
    }

    private static Object denied(Object v) {
        return v == null ? null : bit(!isTrue(v));
    }

    private static Object and(Object a, Object b) {
        if (a != null && !isTrue(a) || b != null && !isTrue(b)) return 0L;
        return a == null || b == null ? null : 1L;
    }

    // ---- the values of expressions, and queries

    private static final class Group {
        Object[] key;
        final List<List<Object>> taken = new ArrayList<>();
        long count;
    }

    private final class Run {
        final Pages pages;
        final List<Definition> all;
        final Object[] bound;
        int steps;
        int changes;

        Run(Pages pages, Object[] bound) {
            this.pages = pages;
            this.all = definitions(pages);
            this.bound = bound;
        }

        void step() {
            if (steps == 1500) throw new Stop(8);
            steps++;
        }

        <T> void add(List<T> list, T t) {
            if (list.size() == 60) throw new Stop(8);
            list.add(t);
        }

        Object value(Expr e) {
            switch (e.op) {
                case "NUMBER": case "QUOTED": case "null": return e.value;
                case "?": case "$": return bound[e.parameter];
                case "ref": return ref(e);
                case "count": case "sum": case "min": case "max": return aggregate(e);
                case "case": return cases(e);
                case "coalesce":
                    for (Expr p : e.parts) {
                        Object v = value(p);
                        if (v != null) return v;
                    }
                    return null;
                case "query": {
                    List<Object[]> rows = query(e.query);
                    return rows.isEmpty() ? null : rows.get(0)[0];
                }
                case "exists": return bit(!query(e.query).isEmpty());
                case "in": return e.not ? denied(in(e)) : in(e);
                case "and": case "or": {
                    boolean or = e.op.equals("or");
                    Object a = value(e.parts.get(0));
                    if (a != null && isTrue(a) == or) return bit(or);
                    Object b = value(e.parts.get(1));
                    return or ? denied(and(denied(a), denied(b))) : and(a, b);
                }
                default: return plain(e);
            }
        }

        private Object ref(Expr e) {
            if (!e.ofGroup) return e.source.row[e.column];
            Core c = e.source.core;
            for (int i = 0; i < c.groupBy.size(); i++) {
                Expr g = c.groupBy.get(i);
                if (g.source == e.source && g.column == e.column) return c.group.key[i];
            }
            throw new IllegalStateException();
        }

        private Object aggregate(Expr e) {
            if (e.star) return e.core.group.count;
            List<Object> taken = e.core.group.taken.get(e.core.aggregates().indexOf(e));
            if (e.op.equals("count")) return (long) taken.size();
            Object result = null;
            for (Object v : taken) {
                if (result == null) result = v;
                else if (e.op.equals("sum")) {
                    result = fitting(BigInteger.valueOf((Long) result).add(BigInteger.valueOf((Long) v)));
                    if (result == null) return null;
                } else if (e.op.equals("min") ? order(v, result) < 0 : order(v, result) > 0) {
                    result = v;
                }
            }
            return result;
        }

        private Object cases(Expr e) {
            for (int i = 0; i < e.whens.size(); i++) {
                if (isTrue(value(e.parts.get(2 * i)))) return value(e.parts.get(2 * i + 1));
            }
            return e.parts.size() > 2 * e.whens.size() ? value(e.parts.get(2 * e.whens.size())) : null;
        }

        private Object in(Expr e) {
            Object x = value(e.parts.get(0));
            boolean unknown = x == null;
            if (e.query != null) {
                List<Object[]> rows = query(e.query);
                for (Object[] r : rows) {
                    if (r[0] == null) unknown = true;
                    else if (x != null && order(x, r[0]) == 0) return 1L;
                }
                return rows.isEmpty() || !unknown ? 0L : null;
            }
            for (Expr p : e.parts.subList(1, e.parts.size())) {
                Object v = value(p);
                if (v == null) unknown = true;
                else if (x != null && order(x, v) == 0) return 1L;
            }
            return unknown ? null : 0L;
        }

        /** What evaluates all its parts. */
        private Object plain(Expr e) {
            List<Object> v = new ArrayList<>();
            for (Expr p : e.parts) v.add(value(p));
            Object a = v.get(0);
            Object b = v.size() > 1 ? v.get(1) : null;
            if (e.op.equals("is")) return bit((a == null) != e.not);
            if (e.op.equals("not")) return denied(a);
            if (e.op.equals("between")) {
                Object c = v.get(2);
                Object from = a == null || b == null ? null : bit(order(a, b) >= 0);
                Object to = a == null || c == null ? null : bit(order(a, c) <= 0);
                return e.not ? denied(and(from, to)) : and(from, to);
            }
            if (v.contains(null)) return null;
            switch (e.op) {
                case "=": return bit(order(a, b) == 0);
                case "<>": return bit(order(a, b) != 0);
                case "<": return bit(order(a, b) < 0);
                case "<=": return bit(order(a, b) <= 0);
                case ">": return bit(order(a, b) > 0);
                case ">=": return bit(order(a, b) >= 0);
                case "like": return bit(like((String) a, (String) b) != e.not);
                case "||": return ((String) a + b).length() > 60 ? null : (String) a + b;
                case "length": return (long) ((String) a).length();
                case "substr": return substr((String) a, (Long) b, (Long) v.get(2));
                default:
            }
            BigInteger m = BigInteger.valueOf((Long) a);
            BigInteger n = b == null ? BigInteger.ZERO : BigInteger.valueOf((Long) b);
            return switch (e.op) {
                case "+" -> fitting(m.add(n));
                case "-" -> fitting(m.subtract(n));
                case "*" -> fitting(m.multiply(n));
                case "/" -> n.signum() == 0 ? null : fitting(m.divide(n));
                case "%" -> n.signum() == 0 ? null : fitting(m.remainder(n));
                case "minus" -> fitting(m.negate());
                case "abs" -> fitting(m.abs());
                default -> throw new IllegalStateException(e.op);
            };
        }

        private static boolean like(String text, String pattern) {
            StringBuilder regex = new StringBuilder();
            for (char c : pattern.toCharArray()) regex.append(c == '%' ? ".*" : c == '_' ? "." : Pattern.quote("" + c));
            return text.matches(regex.toString());
        }

        private static String substr(String text, long from, long count) {
            StringBuilder b = new StringBuilder();
            BigInteger end = BigInteger.valueOf(from).add(BigInteger.valueOf(count));
            for (int p = 1; p <= text.length(); p++) {
                if (from <= p && BigInteger.valueOf(p).compareTo(end) < 0) b.append(text.charAt(p - 1));
            }
            return b.toString();
        }

        List<Object[]> query(Query q) {
            List<Object[]> rows = core(q.cores.get(0));
            for (int i = 1; i < q.cores.size(); i++) rows = joined(rows, q.joins.get(i - 1), core(q.cores.get(i)));
            Comparator<Object[]> sorted = (a, b) -> 0;
            for (Key k : q.keys) {
                int column = Checker.keyColumn(q, k);
                sorted = sorted.thenComparing((a, b) -> k.desc ? order(b[column], a[column]) : order(a[column], b[column]));
            }
            rows.sort(sorted);
            Object limit = q.limit == null ? null : value(q.limit);
            Object offset = q.offset == null ? null : value(q.offset);
            int from = offset == null || (Long) offset < 0 ? 0 : (int) Math.min((Long) offset, rows.size());
            int most = limit == null || (Long) limit < 0 ? rows.size() : (int) Math.min((Long) limit, rows.size());
            return new ArrayList<>(rows.subList(from, Math.min(rows.size(), from + most)));
        }

        private List<Object[]> joined(List<Object[]> left, String join, List<Object[]> right) {
            List<Object[]> rows = new ArrayList<>();
            for (Object[] r : left) {
                boolean stays = switch (join) {
                    case "all" -> true;
                    case "union" -> !has(rows, r);
                    case "except" -> !has(rows, r) && !has(right, r);
                    default -> !has(rows, r) && has(right, r);
                };
                if (stays) add(rows, r);
            }
            if (!join.equals("all") && !join.equals("union")) return rows;
            for (Object[] r : right) {
                if (join.equals("all") || !has(rows, r)) add(rows, r);
            }
            return rows;
        }

        private List<Object[]> core(Core c) {
            for (Source s : c.sources) {
                if (s.query != null) s.list = query(s.query);
            }
            List<Object[]> rows = new ArrayList<>();
            List<Group> groups = new ArrayList<>();
            if (c.isGrouped() && c.groupBy.isEmpty()) groups.add(group(c));
            combine(c, 0, () -> {
                if (c.where != null && !isTrue(value(c.where))) return;
                if (c.isGrouped()) takeIn(c, groups);
                else makeRow(c, rows);
            });
            for (Group g : groups) {
                c.group = g;
                if (c.having == null || isTrue(value(c.having))) makeRow(c, rows);
            }
            return rows;
        }

        private Group group(Core c) {
            Group g = new Group();
            g.key = new Object[c.groupBy.size()];
            for (int i = 0; i < g.key.length; i++) g.key[i] = value(c.groupBy.get(i));
            for (int i = 0; i < c.aggregates().size(); i++) g.taken.add(new ArrayList<>());
            return g;
        }

        private void takeIn(Core c, List<Group> groups) {
            Group found = c.groupBy.isEmpty() ? groups.get(0) : null;
            Group now = group(c);
            for (Group g : groups) {
                if (same(g.key, now.key)) found = g;
            }
            if (found == null) {
                add(groups, now);
                found = now;
            }
            found.count++;
            List<Expr> aggregates = c.aggregates();
            for (int i = 0; i < aggregates.size(); i++) {
                Expr e = aggregates.get(i);
                if (e.star) continue;
                Object v = value(e.parts.get(0));
                if (v == null || e.distinct && found.taken.get(i).contains(v)) continue;
                if (e.distinct) add(found.taken.get(i), v);
                else found.taken.get(i).add(v);
            }
        }

        private void makeRow(Core c, List<Object[]> rows) {
            List<Object> row = new ArrayList<>();
            for (Item i : c.items) {
                if (i.expr != null) row.add(value(i.expr));
                else for (Source s : c.sources) row.addAll(java.util.Arrays.asList(s.row).subList(0, s.names.size()));
            }
            if (!c.distinct || !has(rows, row.toArray())) add(rows, row.toArray());
        }

        private void combine(Core c, int i, Runnable combination) {
            if (i == c.sources.size()) {
                combination.run();
                return;
            }
            Source s = c.sources.get(i);
            boolean any = false;
            for (Object[] row : s.definition != null ? new ArrayList<>(found(s).values()) : s.list) {
                step();
                s.row = row;
                if (s.on != null && !isTrue(value(s.on))) continue;
                any = true;
                combine(c, i + 1, combination);
            }
            if (any || !s.join.equals("left")) return;
            s.row = new Object[s.names.size()];
            combine(c, i + 1, combination);
        }

        /** The rows that are to be taken up, all or by an index, by numbers. */
        private TreeMap<Integer, Object[]> found(Source s) {
            TreeMap<Integer, Object[]> rows = rows(pages, s.definition);
            Choice choice = choice(all, s);
            if (choice.index < 0) return rows;
            boolean unknown = false;
            List<Object> values = new ArrayList<>();
            for (Bound b : choice.bounds) {
                Object v = value(b.expr);
                values.add(v);
                unknown = unknown || v == null;
            }
            TreeMap<Integer, Object[]> found = new TreeMap<>();
            for (int number : rows.keySet()) {
                boolean right = !unknown;
                for (int i = 0; i < values.size() && right; i++) right = choice.bounds.get(i).holds(rows.get(number), values.get(i));
                if (!right) continue;
                step();
                found.put(number, rows.get(number));
            }
            return found;
        }

        // ---- changes

        private Object[] examined(Definition d, Object[] row) {
            List<Column> columns = d.statement.columns;
            for (Object v : row) {
                if (v instanceof String t && t.length() > 24) throw new Stop(10);
            }
            for (int i = 0; i < row.length; i++) {
                if (columns.get(i).notNull && row[i] == null) throw new Stop(3);
            }
            Statement own = Reader.read(d.text);
            for (Rule r : own.rules) {
                if (r.check == null) continue;
                Source s = new Source();
                s.called = d.name();
                Checker checker = new Checker(all);
                checker.see(s, d);
                checker.type(r.check, new Scope(null, List.of(s), "", 0, true, null));
                s.row = row;
                Object v = value(r.check);
                if (v != null && !isTrue(v)) throw new Stop(5);
            }
            if (record(row).length() > 80) throw new Stop(10);
            return row;
        }

        private int other(Definition d, Index index, Object[] row, int number) {
            if (!index.unique) return 0;
            TreeMap<Integer, Object[]> rows = rows(pages, d);
            for (int n : rows.keySet()) {
                boolean equal = n != number;
                for (int c : index.columns) equal = equal && row[c] != null && order(row[c], rows.get(n)[c]) == 0;
                if (equal) return n;
            }
            return 0;
        }

        private boolean hasValue(String table, String column, Object v) {
            Definition d = find(all, table, 1);
            for (Object[] r : rows(pages, d).values()) {
                if (order(r[d.column(column)], v) == 0) return true;
            }
            return false;
        }

        private void needTarget(Column c, Object v) {
            if (c.target != null && v != null && !hasValue(c.target.text, c.targetColumn.text, v)) throw new Stop(6);
        }

        void insert(Statement s) {
            Definition d = find(all, s.target.text, 1);
            List<Object[]> rows = new ArrayList<>();
            List<Object[]> told = new ArrayList<>();
            if (s.query != null) told = query(s.query);
            for (Row r : s.rows == null ? List.<Row>of() : s.rows) {
                List<Object> values = new ArrayList<>();
                for (Expr e : r.exprs) values.add(value(e));
                told.add(values.toArray());
            }
            for (Object[] values : told) {
                Object[] row = new Object[d.statement.columns.size()];
                for (int i = 0; i < row.length; i++) row[i] = d.statement.columns.get(i).value;
                for (int i = 0; i < values.length; i++) row[s.names == null ? i : d.column(s.names.get(i).text)] = values[i];
                rows.add(row);
            }
            for (Object[] row : rows) {
                try {
                    examined(d, row);
                } catch (Stop e) {
                    if (s.mode.equals("ignore") && e.code != 10) continue;
                    throw e;
                }
                if (makesRoom(s, d, row)) put(d, row);
            }
        }

        /** Whether no other row has what is unique; with replace that is brought about. */
        private boolean makesRoom(Statement s, Definition d, Object[] row) {
            for (Index index : indices(all, d)) {
                int other = other(d, index, row, 0);
                if (other == 0) continue;
                if (s.mode.equals("ignore")) return false;
                if (!s.mode.equals("replace")) throw new Stop(4);
                List<Gone> list = new ArrayList<>();
                list.add(new Gone(d, other));
                takeOut(list);
            }
            return true;
        }

        private void put(Definition d, Object[] row) {
            TreeMap<Integer, Object[]> rows = rows(pages, d);
            int number = rows.isEmpty() ? 1 : rows.lastKey() + 1;
            if (number > 65535) throw new Stop(9);
            pages.put(d.roots.get(0), new Cell(number(number), record(row), 0));
            for (Index index : indices(all, d)) pages.put(index.root, new Cell(key(index, row, number), "", 0));
            changes++;
            for (int i = 0; i < row.length; i++) needTarget(d.statement.columns.get(i), row[i]);
        }

        private List<Integer> rowsToChange(Statement s) {
            List<Integer> list = new ArrayList<>();
            for (var e : found(s.source).entrySet()) {
                step();
                s.source.row = e.getValue();
                if (s.where == null || isTrue(value(s.where))) add(list, e.getKey());
            }
            return list;
        }

        void update(Statement s) {
            Definition d = find(all, s.target.text, 1);
            List<Integer> numbers = rowsToChange(s);
            List<Object[]> changed = new ArrayList<>();
            TreeMap<Integer, Object[]> rows = rows(pages, d);
            for (int n : numbers) {
                Object[] row = rows.get(n).clone();
                s.source.row = rows.get(n);
                for (Setting set : s.settings) row[d.column(set.column.text)] = value(set.expr);
                changed.add(row);
            }
            for (int i = 0; i < changed.size(); i++) change(d, numbers.get(i), changed.get(i));
        }

        private void change(Definition d, int number, Object[] row) {
            Object[] old = rows(pages, d).get(number);
            examined(d, row);
            for (Index index : indices(all, d)) {
                if (other(d, index, row, number) > 0) throw new Stop(4);
            }
            if (!record(old).equals(record(row))) {
                pages.takeOut(d.roots.get(0), number(number));
                pages.put(d.roots.get(0), new Cell(number(number), record(row), 0));
            }
            for (Index index : indices(all, d)) {
                if (key(index, old, number).equals(key(index, row, number))) continue;
                pages.takeOut(index.root, key(index, old, number));
                pages.put(index.root, new Cell(key(index, row, number), "", 0));
            }
            changes++;
            for (int i = 0; i < row.length; i++) {
                if (order(row[i], old[i]) != 0) needTarget(d.statement.columns.get(i), row[i]);
            }
            for (Definition t : all) {
                if (t.kind != 1) continue;
                for (Column c : t.statement.columns) {
                    if (c.target == null || !c.target.text.equals(d.name())) continue;
                    int column = d.column(c.targetColumn.text);
                    if (old[column] == null || order(old[column], row[column]) == 0) continue;
                    if (hasValue(t.name(), c.name, old[column])) throw new Stop(6);
                }
            }
        }

        private record Gone(Definition table, int number) {}

        void delete(Statement s) {
            Definition d = find(all, s.target.text, 1);
            List<Gone> list = new ArrayList<>();
            for (int n : rowsToChange(s)) list.add(new Gone(d, n));
            takeOut(list);
        }

        private void takeOut(List<Gone> list) {
            for (int i = 0; i < list.size(); i++) {
                Definition d = list.get(i).table;
                int number = list.get(i).number;
                Object[] gone = rows(pages, d).get(number);
                if (gone == null) continue;
                pages.takeOut(d.roots.get(0), number(number));
                for (Index index : indices(all, d)) pages.takeOut(index.root, key(index, gone, number));
                changes++;
                for (Definition t : all) {
                    if (t.kind != 1) continue;
                    for (Column c : t.statement.columns) {
                        if (c.target == null || !c.target.text.equals(d.name())) continue;
                        Object v = gone[d.column(c.targetColumn.text)];
                        if (v != null) followReferences(t, c, v, list);
                    }
                }
            }
        }

        private void followReferences(Definition t, Column c, Object v, List<Gone> list) {
            int column = t.column(c.name);
            for (var e : rows(pages, t).entrySet()) {
                if (order(e.getValue()[column], v) != 0) continue;
                if (c.action.isEmpty()) throw new Stop(6);
                if (c.action.equals("cascade")) {
                    add(list, new Gone(t, e.getKey()));
                    continue;
                }
                Object[] row = rows(pages, t).get(e.getKey()).clone();
                row[column] = null;
                change(t, e.getKey(), row);
            }
        }

        // ---- definitions that are made and dropped

        void create(Statement s) {
            StringBuilder first = new StringBuilder();
            if (s.kind.equals("create table")) {
                Definition d = new Definition();
                d.statement = s;
                first.append((char) 1);
                for (int i = 0; i <= uniques(d).size(); i++) first.append((char) pages.leaf());
            } else if (s.kind.equals("create index")) {
                first.append((char) 2).append((char) index(s));
            } else {
                first.append((char) 3);
            }
            Set<Integer> numbers = new java.util.HashSet<>();
            for (Definition d : all) numbers.add(d.number);
            int number = 1;
            while (numbers.contains(number)) number++;
            pages.put(1, new Cell("" + (char) number + (char) 0, first.toString(), 0));
            int piece = 1;
            for (int at = 0; at < s.text.length(); at += 60) {
                String part = s.text.substring(at, Math.min(at + 60, s.text.length()));
                pages.put(1, new Cell("" + (char) number + (char) piece++, part, 0));
            }
        }

        private int index(Statement s) {
            Definition d = find(all, s.target.text, 1);
            Index index = new Index(s.mode.equals("unique"), columns(d, s.names), pages.leaf());
            List<Object[]> ahead = new ArrayList<>();
            for (var e : rows(pages, d).entrySet()) {
                Object[] row = e.getValue();
                for (Object[] a : ahead) {
                    boolean equal = index.unique;
                    for (int c : index.columns) equal = equal && row[c] != null && order(row[c], a[c]) == 0;
                    if (equal) throw new Stop(4);
                }
                ahead.add(row);
                pages.put(index.root, new Cell(key(index, row, e.getKey()), "", 0));
            }
            return index.root;
        }

        void drop(Statement s) {
            Definition d = find(all, s.name.text);
            List<Definition> others = d.kind == 1 ? created(all, d) : List.of();
            for (Definition t : all) {
                if (d.kind != 1 || t.kind != 1 || t == d) continue;
                for (Column c : t.statement.columns) {
                    if (c.target != null && c.target.text.equals(d.name())) throw new Stop(6);
                }
            }
            for (int root : d.roots) pages.freeTree(root);
            for (Definition o : others) pages.freeTree(o.roots.get(0));
            takeOutPieces(d);
            for (Definition o : others) takeOutPieces(o);
        }

        private void takeOutPieces(Definition d) {
            for (int piece = 0; piece == 0 || (piece - 1) * 60 < d.text.length(); piece++) {
                pages.takeOut(1, "" + (char) d.number + (char) piece);
            }
        }
    }

    // ---- which index

    /** A part of a condition as it bounds a column. */
    private record Bound(String op, int column, Expr expr) {
        boolean holds(Object[] row, Object v) {
            Object own = row[column];
            if (own == null) return false;
            int order = order(own, v);
            return switch (op) {
                case "=" -> order == 0;
                case "<" -> order < 0;
                case "<=" -> order <= 0;
                case ">" -> order > 0;
                default -> order >= 0;
            };
        }
    }

    private record Choice(int index, int worth, List<Bound> bounds) {}

    private static Choice choice(List<Definition> all, Source s) {
        Choice best = new Choice(-1, 0, List.of());
        List<Index> indices = indices(all, s.definition);
        for (int i = 0; i < indices.size(); i++) {
            List<Bound> bounds = new ArrayList<>();
            int worth = 0;
            for (int column : indices.get(i).columns) {
                Bound equal = bound(s, column, "=");
                if (equal != null) {
                    bounds.add(equal);
                    worth += 2;
                    continue;
                }
                Bound lower = bound(s, column, ">");
                Bound upper = bound(s, column, "<");
                if (lower != null) bounds.add(lower);
                if (upper != null) bounds.add(upper);
                if (lower != null || upper != null) worth++;
                break;
            }
            if (worth > best.worth) best = new Choice(i, worth, bounds);
        }
        return best;
    }

    private static Bound bound(Source s, int column, String wanted) {
        for (Expr e : s.conditions) {
            for (Bound b : bounds(s, e)) {
                if (b.column == column && b.op.startsWith(wanted)) return b;
            }
        }
        return null;
    }

    private static List<Bound> bounds(Source s, Expr e) {
        List<Bound> list = new ArrayList<>();
        if (e.op.equals("between") && !e.not && isColumn(s, e.parts.get(0)) && isFree(s, e.parts.get(1)) && isFree(s, e.parts.get(2))) {
            list.add(new Bound(">=", e.parts.get(0).column, e.parts.get(1)));
            list.add(new Bound("<=", e.parts.get(0).column, e.parts.get(2)));
        }
        if (!Set.of("=", "<", "<=", ">", ">=").contains(e.op)) return list;
        Expr a = e.parts.get(0);
        Expr b = e.parts.get(1);
        String turned = e.op.replace('<', '!').replace('>', '<').replace('!', '>');
        if (isColumn(s, a) && isFree(s, b)) list.add(new Bound(e.op, a.column, b));
        if (isColumn(s, b) && isFree(s, a)) list.add(new Bound(turned, b.column, a));
        return list;
    }

    private static boolean isColumn(Source s, Expr e) {
        return e.op.equals("ref") && e.source == s;
    }

    private static boolean isFree(Source s, Expr e) {
        if (e.query != null) return false;
        if (e.op.equals("ref")) {
            if (e.source == s) return false;
            if (s.core != null && e.source.core == s.core && s.core.sources.indexOf(e.source) > s.core.sources.indexOf(s)) return false;
        }
        for (Expr p : e.parts) {
            if (!isFree(s, p)) return false;
        }
        return true;
    }

    // ---- pages and trees; keys and payloads are texts whose signs are bytes

    private record Cell(String key, String payload, int child) {
        int bytes(boolean inner) {
            return 2 + key.length() + (inner ? 0 : payload.length());
        }
    }

    private static final class Pages {
        final int[][] pages = new int[60][256];

        Pages copy() {
            Pages copy = new Pages();
            for (int i = 0; i < 60; i++) copy.pages[i] = pages[i].clone();
            return copy;
        }

        private int take() {
            int page = pages[0][2];
            if (page > 0) pages[0][2] = pages[page][2];
            else if (pages[0][1] == 60) throw new Stop(9);
            else page = pages[0][1]++;
            return page;
        }

        int leaf() {
            int page = take();
            write(page, 1, 0, List.of());
            return page;
        }

        private void free(int page) {
            pages[page] = new int[256];
            pages[page][2] = pages[0][2];
            pages[0][2] = page;
        }

        private boolean isInner(int page) {
            return pages[page][0] == 2;
        }

        List<Cell> cells(int page) {
            List<Cell> cells = new ArrayList<>();
            int at = 4;
            for (int i = 0; i < pages[page][1]; i++) {
                int length = pages[page][at++];
                int second = pages[page][at++];
                String key = bytes(page, at, length);
                at += length;
                String payload = bytes(page, at, isInner(page) ? 0 : second);
                at += payload.length();
                cells.add(new Cell(key, payload, second));
            }
            return cells;
        }

        private String bytes(int page, int from, int count) {
            StringBuilder b = new StringBuilder();
            for (int i = 0; i < count; i++) b.append((char) pages[page][from + i]);
            return b.toString();
        }

        private void write(int page, int kind, int first, List<Cell> cells) {
            pages[page] = new int[256];
            pages[page][0] = kind;
            pages[page][1] = cells.size();
            pages[page][2] = first;
            int at = 4;
            for (Cell c : cells) {
                pages[page][at++] = c.key.length();
                pages[page][at++] = kind == 2 ? c.child : c.payload.length();
                for (char b : (c.key + (kind == 2 ? "" : c.payload)).toCharArray()) pages[page][at++] = b;
            }
        }

        private static int load(List<Cell> cells, boolean inner) {
            int load = 0;
            for (Cell c : cells) load += c.bytes(inner);
            return load;
        }

        private List<Integer> children(int page) {
            List<Integer> list = new ArrayList<>();
            if (!isInner(page)) return list;
            list.add(pages[page][2]);
            for (Cell c : cells(page)) list.add(c.child);
            return list;
        }

        /** All pages of a tree: the root, then likewise what is under each child. */
        List<Integer> tree(int root) {
            List<Integer> list = new ArrayList<>(List.of(root));
            for (int child : children(root)) list.addAll(tree(child));
            return list;
        }

        /** All cells of the leaves of a tree, in order. */
        List<Cell> all(int root) {
            List<Cell> list = new ArrayList<>();
            for (int page : tree(root)) {
                if (!isInner(page)) list.addAll(cells(page));
            }
            return list;
        }

        private int childFor(int page, String key) {
            int child = pages[page][2];
            for (Cell c : cells(page)) {
                if (c.key.compareTo(key) <= 0) child = c.child;
            }
            return child;
        }

        void put(int root, Cell cell) {
            put(root, root, cell);
        }

        /** Puts a cell in somewhere under a page; returns the cell for its parent, if the page was split. */
        private Cell put(int root, int page, Cell cell) {
            Cell added = isInner(page) ? put(root, childFor(page, cell.key), cell) : cell;
            if (added == null) return null;
            boolean inner = isInner(page);
            int first = pages[page][2];
            List<Cell> cells = cells(page);
            cells.add(added);
            cells.sort(Comparator.comparing(Cell::key));
            int load = load(cells, inner);
            if (load <= 252) {
                write(page, pages[page][0], first, cells);
                return null;
            }
            int n = 0;
            while (load(cells.subList(0, n), inner) * 2 < load) n++;
            int left = page == root ? take() : page;
            int right = take();
            Cell between = inner ? cells.get(n - 1) : cells.get(n);
            write(left, inner ? 2 : 1, first, cells.subList(0, inner ? n - 1 : n));
            write(right, inner ? 2 : 1, inner ? between.child : 0, cells.subList(n, cells.size()));
            Cell up = new Cell(between.key, "", right);
            if (page != root) return up;
            write(root, 2, left, List.of(up));
            return null;
        }

        void takeOut(int root, String key) {
            List<Integer> way = new ArrayList<>(List.of(root));
            while (isInner(way.get(0))) way.add(0, childFor(way.get(0), key));
            List<Cell> cells = cells(way.get(0));
            cells.removeIf(c -> c.key.equals(key));
            write(way.get(0), 1, 0, cells);
            if (way.size() == 1) return;
            for (int i = 0; i + 1 < way.size(); i++) {
                if (!join(way.get(i), way.get(i + 1))) return;
            }
            while (isInner(root) && pages[root][1] == 0) {
                int child = pages[root][2];
                pages[root] = pages[child].clone();
                free(child);
            }
        }

        private boolean join(int page, int parent) {
            List<Integer> children = children(parent);
            if (children.size() == 1) return false;
            int r = Math.min(children.indexOf(page) + 1, children.size() - 1);
            int left = children.get(r - 1);
            int right = children.get(r);
            boolean inner = isInner(page);
            List<Cell> ofParent = cells(parent);
            String between = ofParent.get(r - 1).key;
            List<Cell> cells = cells(left);
            int load = load(cells, inner) + load(cells(right), inner) + (inner ? 2 + between.length() : 0);
            boolean empty = !inner && (cells.isEmpty() || cells(right).isEmpty());
            if (load > 200 && !empty) return false;
            if (inner) cells.add(new Cell(between, "", pages[right][2]));
            cells.addAll(cells(right));
            write(left, inner ? 2 : 1, pages[left][2], cells);
            ofParent.remove(r - 1);
            write(parent, 2, pages[parent][2], ofParent);
            free(right);
            return true;
        }

        void freeTree(int root) {
            for (int page : tree(root)) free(page);
        }

        int levels(int root) {
            return isInner(root) ? 1 + levels(pages[root][2]) : 1;
        }
    }

    private static String number(int n) {
        return "" + (char) (n >> 8) + (char) (n & 255);
    }

    private static String record(Object[] row) {
        StringBuilder b = new StringBuilder();
        for (Object v : row) {
            if (v == null) b.append((char) 0);
            else if (v instanceof String t) b.append((char) (16 + t.length())).append(t);
            else {
                byte[] bytes = BigInteger.valueOf((Long) v).toByteArray();
                b.append((char) bytes.length);
                for (byte x : bytes) b.append((char) (x & 255));
            }
        }
        return b.toString();
    }

    private static Object[] row(String record, int columns) {
        Object[] row = new Object[columns];
        int at = 0;
        for (int i = 0; i < columns; i++) {
            int head = record.charAt(at++);
            int length = head >= 16 ? head - 16 : head;
            String bytes = record.substring(at, at + length);
            at += length;
            if (head >= 16) {
                row[i] = bytes;
            } else if (head > 0) {
                long n = (byte) bytes.charAt(0);
                for (int k = 1; k < length; k++) n = n * 256 + bytes.charAt(k);
                row[i] = n;
            }
        }
        return row;
    }

    private static TreeMap<Integer, Object[]> rows(Pages pages, Definition d) {
        TreeMap<Integer, Object[]> rows = new TreeMap<>();
        for (Cell c : pages.all(d.roots.get(0))) {
            rows.put(c.key.charAt(0) * 256 + c.key.charAt(1), row(c.payload, d.statement.columns.size()));
        }
        return rows;
    }

    private static String key(Index index, Object[] row, int number) {
        StringBuilder b = new StringBuilder();
        for (int c : index.columns) {
            if (row[c] == null) b.append((char) 0);
            else if (row[c] instanceof String t) b.append((char) 2).append(t).append((char) 0);
            else {
                b.append((char) 1);
                for (int i = 0; i < 8; i++) b.append((char) ((Long) row[c] >> (56 - 8 * i) & 255 ^ (i == 0 ? 128 : 0)));
            }
        }
        return b + number(number);
    }

    // ---- the state

    private record Savepoint(String name, Pages kept) {}

    private static final class Client {
        boolean begun;
        int mark = -1;
        final List<Savepoint> savepoints = new ArrayList<>();
    }

    private static final class Slot {
        String text;
        String parameters;
        Object[] bound;
    }

    private String tape = "";
    private final Slot[] slots = new Slot[8];
    private int errorAt = -1;
    private int inUse;
    private final Client[] clients = {new Client(), new Client(), new Client()};
    private int writer = -1;
    private Pages own;
    private final Pages file = new Pages();
    private StringBuilder log = new StringBuilder();
    private String appended = "";
    private int safe;
    private int used;
    private boolean open = true;
    private int code;
    private int changed;
    private int steps;
    private int columns;
    private List<Object[]> told = new ArrayList<>();

    PlainStore() {
        file.pages[0][0] = 7;
        file.pages[0][1] = 2;
        file.pages[1][0] = 1;
    }

    private int frames() {
        return log.length() / 262;
    }

    private Pages by(int mark) {
        Pages p = file.copy();
        for (int i = 0; i < mark; i++) copyFrame(i, p);
        return p;
    }

    private void copyFrame(int i, Pages to) {
        for (int k = 0; k < 256; k++) to.pages[log.charAt(i * 262)][k] = log.charAt(i * 262 + 2 + k);
    }

    private Pages seen() {
        Client c = clients[inUse];
        if (writer == inUse) return own;
        return by(c.mark >= 0 ? c.mark : frames());
    }

    private void need(boolean right, Supplier<RuntimeException> otherwise) {
        if (!right) throw otherwise.get();
    }

    private void needSlot(int slot) {
        need(slot >= 0 && slot < 8, IndexOutOfBoundsException::new);
    }

    private void needOpen() {
        need(open, IllegalStateException::new);
    }

    // ---- the calls

    int feed(int a, int b, int c, int d, int e) {
        need(tape.length() + 20 <= 800, IllegalStateException::new);
        for (int n : new int[] {a, b, c, d, e}) {
            for (int shift = 24; shift >= 0; shift -= 8) tape += (char) (n >> shift & 255);
        }
        return tape.length();
    }

    int trim(int bytes) {
        need(bytes >= 0 && bytes <= tape.length(), IllegalArgumentException::new);
        tape = tape.substring(0, bytes);
        return bytes;
    }

    int prepare(int slot) {
        needSlot(slot);
        needOpen();
        String text = tape;
        tape = "";
        try {
            Statement s = Reader.read(text);
            new Checker(definitions(seen())).check(s);
            slots[slot] = new Slot();
            slots[slot].text = text;
            slots[slot].parameters = s.parameters;
            slots[slot].bound = new Object[s.parameters.length()];
            errorAt = -1;
            return 0;
        } catch (Wrong e) {
            errorAt = e.place;
            return e.error;
        }
    }

    int errorAt() {
        return errorAt;
    }

    int parameters(int slot) {
        needSlot(slot);
        return slots[slot] == null ? -1 : slots[slot].parameters.length();
    }

    private void bind(int slot, int place, Object v, String kind) {
        needSlot(slot);
        need(slots[slot] != null, IllegalStateException::new);
        Slot s = slots[slot];
        need(place >= 0 && place < s.bound.length, IllegalArgumentException::new);
        need(kind.isEmpty() || s.parameters.charAt(place) == kind.charAt(0), IllegalArgumentException::new);
        need(!kind.equals("$") || ((String) v).matches("[ -~]{0,60}"), IllegalArgumentException::new);
        s.bound[place] = v;
    }

    int bindNumber(int slot, int place, long value) {
        bind(slot, place, value, "?");
        return place;
    }

    int bindText(int slot, int place) {
        bind(slot, place, tape, "$");
        int length = tape.length();
        tape = "";
        return length;
    }

    int bindNull(int slot, int place) {
        bind(slot, place, null, "");
        return place;
    }

    private void needClient(int client) {
        need(client >= 0 && client < 3, IndexOutOfBoundsException::new);
    }

    int use(int client) {
        needClient(client);
        int ahead = inUse;
        inUse = client;
        return ahead;
    }

    int client() {
        return inUse;
    }

    private void forget() {
        code = 0;
        changed = 0;
        steps = 0;
        columns = 0;
        told = new ArrayList<>();
    }

    int run(int slot) {
        needSlot(slot);
        needOpen();
        need(slots[slot] != null, IllegalStateException::new);
        forget();
        Statement s = Reader.read(slots[slot].text);
        code = s.isTransaction() ? transact(s) : runOther(s, slots[slot].bound);
        return code;
    }

    private int runOther(Statement s, Object[] bound) {
        try {
            new Checker(definitions(seen())).check(s);
        } catch (Wrong e) {
            return 12;
        }
        Client c = clients[inUse];
        boolean writes = !s.kind.equals("select");
        if (writes && (writer >= 0 && writer != inUse || c.mark >= 0 && c.mark != frames())) return 7;
        if (c.mark < 0) c.mark = frames();
        if (writes && writer < 0) {
            writer = inUse;
            own = by(c.mark);
        }
        Run run = new Run(seen().copy(), bound);
        int ended = 0;
        List<Object[]> rows = List.of();
        try {
            new Checker(run.all).check(s);
            rows = carriedOut(run, s);
        } catch (Stop e) {
            ended = e.code;
        }
        if (writes && ended == 0) own = run.pages;
        steps = ended == 8 ? 1500 : run.steps;
        if (!c.begun) {
            if (ended == 0 && !append()) ended = 9;
            end(c);
        }
        if (ended != 0) return ended;
        changed = run.changes;
        told = rows;
        columns = writes ? 0 : s.query.names.size();
        return 0;
    }

    private List<Object[]> carriedOut(Run run, Statement s) {
        switch (s.kind) {
            case "select": return run.query(s.query);
            case "insert": run.insert(s); break;
            case "update": run.update(s); break;
            case "delete": run.delete(s); break;
            case "drop": run.drop(s); break;
            default: run.create(s);
        }
        return List.of();
    }

    private List<Integer> changedPages() {
        List<Integer> list = new ArrayList<>();
        Client c = clients[inUse];
        if (writer != inUse || c.mark < 0) return list;
        Pages before = by(c.mark);
        for (int i = 0; i < 60; i++) {
            if (!java.util.Arrays.equals(before.pages[i], own.pages[i])) list.add(i);
        }
        return list;
    }

    private boolean append() {
        List<Integer> list = changedPages();
        if (frames() + list.size() > 60) return false;
        for (int page : list) {
            long check = 17;
            if (log.length() > 0) {
                check = 0;
                for (int i = 4; i > 0; i--) check = check * 256 + log.charAt(log.length() - i);
            }
            StringBuilder frame = new StringBuilder().append((char) page).append((char) (page == list.get(list.size() - 1) ? 1 : 0));
            for (int b : own.pages[page]) frame.append((char) b);
            for (char b : frame.toString().toCharArray()) check = (check * 31 + b + 1) & 0xffffffffL;
            for (int shift = 24; shift >= 0; shift -= 8) frame.append((char) (check >> shift & 255));
            log.append(frame);
        }
        return true;
    }

    private void end(Client c) {
        c.begun = false;
        c.mark = -1;
        c.savepoints.clear();
        if (writer >= 0 && clients[writer] == c) writer = -1;
    }

    private int transact(Statement s) {
        Client c = clients[inUse];
        if (s.kind.equals("begin") == c.begun) return 11;
        int last = -1;
        for (int i = 0; i < c.savepoints.size() && s.name != null; i++) {
            if (c.savepoints.get(i).name.equals(s.name.text)) last = i;
        }
        switch (s.kind) {
            case "begin":
                c.begun = true;
                return 0;
            case "commit":
                if (!append()) return 9;
                end(c);
                return 0;
            case "savepoint":
                if (c.savepoints.size() == 4) return 11;
                c.savepoints.add(new Savepoint(s.name.text, writer == inUse ? own.copy() : null));
                return 0;
            default:
        }
        if (s.kind.equals("rollback") && s.name == null) {
            end(c);
            return 0;
        }
        if (last < 0) return 11;
        if (s.kind.equals("rollback")) {
            Pages kept = c.savepoints.get(last).kept;
            if (writer == inUse) own = kept == null ? by(c.mark) : kept.copy();
            last++;
        }
        while (c.savepoints.size() > last) c.savepoints.remove(last);
        return 0;
    }

    /** The tables and views as they are seen now, with the names of their columns; of a view as far as its text tells them. */
    TreeMap<String, List<String>> tables() {
        TreeMap<String, List<String>> map = new TreeMap<>();
        for (Definition d : definitions(seen())) {
            List<String> names = new ArrayList<>();
            for (Column c : d.statement.columns) names.add(c.name);
            if (d.kind == 3) {
                for (Item i : d.statement.query.cores.get(0).items) names.add(i.as != null || i.expr == null ? i.as : i.expr.first);
            }
            if (d.kind != 2) map.put(d.name(), names);
        }
        return map;
    }

    int code() {
        return code;
    }

    int rows() {
        return told.size();
    }

    int columns() {
        return columns;
    }

    int changed() {
        return changed;
    }

    int steps() {
        return steps;
    }

    private Object toldAt(int row, int column) {
        need(row >= 0 && row < told.size() && column >= 0 && column < columns, IndexOutOfBoundsException::new);
        return told.get(row)[column];
    }

    int kindAt(int row, int column) {
        Object v = toldAt(row, column);
        return v == null ? 0 : v instanceof Long ? 1 : 2;
    }

    long numberAt(int row, int column) {
        return toldAt(row, column) instanceof Long n ? n : 0;
    }

    int lengthAt(int row, int column) {
        return toldAt(row, column) instanceof String t ? t.length() : -1;
    }

    int byteAt(int row, int column, int place) {
        need(place >= 0 && place < lengthAt(row, column), IndexOutOfBoundsException::new);
        return ((String) toldAt(row, column)).charAt(place);
    }

    private Choice chosen(int slot, int source) {
        needSlot(slot);
        needOpen();
        need(slots[slot] != null, IllegalStateException::new);
        Statement s = Reader.read(slots[slot].text);
        List<Definition> all = definitions(seen());
        try {
            new Checker(all).check(s);
        } catch (Wrong e) {
            return new Choice(-3, -3, null);
        }
        List<Source> tables = new ArrayList<>();
        for (Source n : s.named) {
            if (n.definition != null) tables.add(n);
        }
        return source < 0 || source >= tables.size() ? new Choice(-2, -2, null) : choice(all, tables.get(source));
    }

    int indexUsed(int slot, int source) {
        return chosen(slot, source).index;
    }

    int worthOf(int slot, int source) {
        return chosen(slot, source).worth;
    }

    boolean inTransaction(int client) {
        needClient(client);
        return clients[client].begun;
    }

    int markOf(int client) {
        needClient(client);
        return clients[client].mark;
    }

    int writer() {
        return writer;
    }

    int savepoints(int client) {
        needClient(client);
        return clients[client].savepoints.size();
    }

    int framesDue() {
        needOpen();
        return changedPages().size();
    }

    int pages() {
        needOpen();
        return seen().pages[0][1];
    }

    int freePages() {
        needOpen();
        Pages p = seen();
        int n = 0;
        for (int page = p.pages[0][2]; page > 0; page = p.pages[page][2]) n++;
        return n;
    }

    private List<Integer> roots() {
        List<Integer> list = new ArrayList<>(List.of(1));
        for (Definition d : definitions(seen())) list.addAll(d.roots);
        return list;
    }

    int treePages() {
        needOpen();
        int n = 0;
        for (int root : roots()) n += seen().tree(root).size();
        return n;
    }

    int pageByte(int page, int place) {
        needOpen();
        need(page >= 0 && page < pages() && place >= 0 && place < 256, IndexOutOfBoundsException::new);
        return seen().pages[page][place];
    }

    int trees() {
        needOpen();
        return roots().size();
    }

    int rootOf(int tree) {
        need(tree >= 0 & tree < trees(), IndexOutOfBoundsException::new);
        return roots().get(tree);
    }

    int levelsOf(int tree) {
        needOpen();
        return seen().levels(rootOf(tree));
    }

    int entriesOf(int tree) {
        needOpen();
        return seen().all(rootOf(tree)).size();
    }

    double meanFill() {
        needOpen();
        int load = 0;
        int leaves = 0;
        for (int root : roots()) {
            for (int page : seen().tree(root)) {
                if (seen().isInner(page)) continue;
                load += Pages.load(seen().cells(page), false);
                leaves++;
            }
        }
        return load / (252.0 * leaves);
    }

    private int leastMark() {
        int least = frames();
        for (Client c : clients) {
            if (c.mark >= 0) least = Math.min(least, c.mark);
        }
        return least;
    }

    private List<Integer> pagesToCopy() {
        Set<Integer> pages = new java.util.TreeSet<>();
        for (int i = 0; i < leastMark(); i++) pages.add((int) log.charAt(i * 262));
        return new ArrayList<>(pages);
    }

    private void copy(List<Integer> pages) {
        Pages by = by(leastMark());
        for (int page : pages) file.pages[page] = by.pages[page].clone();
        used = leastMark();
        safe = log.length();
    }

    int checkpoint() {
        needOpen();
        List<Integer> pages = pagesToCopy();
        copy(pages);
        boolean free = true;
        for (Client c : clients) free = free && c.mark < 0;
        if (!free) return pages.size();
        log = new StringBuilder();
        safe = 0;
        used = 0;
        return pages.size();
    }

    int sync() {
        needOpen();
        int unsafe = unsafeBytes();
        safe = log.length();
        return unsafe;
    }

    int crash(int lost, int copied) {
        needOpen();
        need(lost >= 0 && lost <= unsafeBytes() && copied >= 0 && copied <= pagesToCopy().size() && (lost == 0 || copied == 0),
            IllegalArgumentException::new);
        if (copied > 0) copy(pagesToCopy().subList(0, copied));
        log.setLength(log.length() - lost);
        safe = log.length();
        appended = log.toString();
        open = false;
        for (Client c : clients) end(c);
        for (int i = 0; i < 8; i++) slots[i] = null;
        forget();
        errorAt = -1;
        return log.length();
    }

    int poke(int place, int mask) {
        need(!open, IllegalStateException::new);
        need(place >= used * 262 && place >= 0 && place < log.length(), IndexOutOfBoundsException::new);
        need(mask >= 1 && mask <= 255, IllegalArgumentException::new);
        log.setCharAt(place, (char) (log.charAt(place) ^ mask));
        return log.charAt(place);
    }

    int open() {
        need(!open, IllegalStateException::new);
        int good = 0;
        while (good < frames() && log.substring(good * 262, good * 262 + 262).equals(appended.substring(good * 262, good * 262 + 262))) good++;
        while (good > 0 && log.charAt(good * 262 - 261) != 1) good--;
        int cut = log.length() - good * 262;
        log.setLength(good * 262);
        safe = log.length();
        open = true;
        return cut;
    }

    boolean isOpen() {
        return open;
    }

    int logBytes() {
        return log.length();
    }

    int unsafeBytes() {
        return log.length() - safe;
    }

    int usedFrames() {
        return used;
    }

    int logByte(int place) {
        need(place >= 0 && place < log.length(), IndexOutOfBoundsException::new);
        return log.charAt(place);
    }

    int fileByte(int page, int place) {
        need(page >= 0 && page < 60 && place >= 0 && place < 256, IndexOutOfBoundsException::new);
        return file.pages[page][place];
    }

    long digest() {
        List<Long> x = new ArrayList<>();
        int[] first = {inUse, open ? 1 : 0, errorAt, code, rows(), columns, changed, steps, logBytes(), unsafeBytes(), used, writer};
        for (int n : first) x.add((long) n);
        for (int slot = 0; slot < 8; slot++) x.add((long) parameters(slot));
        for (int c = 0; c < 3; c++) {
            x.add(inTransaction(c) ? 1L : 0L);
            x.add((long) markOf(c));
            x.add((long) savepoints(c));
        }
        for (Object[] row : told) {
            for (Object v : row) {
                x.add(v == null ? 0L : v instanceof Long ? 1L : 2L);
                if (v instanceof Long n) x.add(n);
                if (!(v instanceof String t)) continue;
                x.add((long) t.length());
                for (char b : t.toCharArray()) x.add((long) b);
            }
        }
        for (int i = 0; i < log.length(); i++) x.add((long) log.charAt(i));
        if (open) {
            x.add((long) pages());
            x.add((long) freePages());
            x.add((long) treePages());
            x.add((long) framesDue());
            Pages seen = seen();
            for (int page = 0; page < seen.pages[0][1]; page++) {
                for (int b : seen.pages[page]) x.add((long) b);
            }
        }
        long d = 58001;
        for (long n : x) d = d * 31 + n;
        return d;
    }
}
