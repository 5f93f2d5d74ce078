import java.util.ArrayList;
import java.util.List;
import java.util.Objects;
import java.util.Random;

/**
 * Promises 4, 5, 6, 22 and 23: texts made by the grammar at random, often up to its bounds or one beyond, a quarter of them
 * with a token changed, put in or taken out; errors, their places and the chosen indices are compared with those of PlainStore.
 * With two numbers behind it, it makes so many texts from a seed.
 */
public final class PlainTextTest {
    private static final String[] TABLES = {
        "create table t (a int unique, b text, c int, d text, unique (b, c))",
        "create table u (a int references t(a), b text unique, x int)",
        "create table w (a int, n_1 text)",
        "create view v as select a, b from t",
        "create view vv as select count(*) as a, max(b) as b from v, u x group by c"};
    private static final String[] OTHERS = ("abs all and as begin between by cascade case check coalesce commit count create default delete desc distinct"
        + " drop else end except exists from group having ignore in index insert int intersect into is join left length like limit max min not"
        + " null offset on or order references release replace rollback savepoint select set substr sum table text then to union unique update"
        + " values view when where ( ) , . * + - / % = < > <= >= <> || ? $ | ! 'x 'abcdefghijklmnopqrstuvwxy' abcdefghijk 1234567890123456789"
        + " A \" a b t 1 'x'").split(" ");

    private final Random random;
    private final List<String> tokens = new ArrayList<>();
    /** Behind so many tokens nothing deep is begun. */
    private final int most;

    private PlainTextTest(Random random) {
        this.random = random;
        most = 40 + random.nextInt(150);
    }

    public static void main(String[] args) {
        Random random = new Random(args.length > 0 ? Integer.parseInt(args[0]) : 1);
        int count = args.length > 1 ? Integer.parseInt(args[1]) : 20000;
        Both both = new Both();
        for (String table : TABLES) {
            both.prepare(0, table);
            both.run(0);
        }
        for (int i = 0; i < count && both.right; i++) {
            PlainTextTest test = new PlainTextTest(random);
            test.statement();
            if (test.chance(25)) test.spoil();
            String text = test.text();
            both.done.setLength(0);
            if (text.length() > 800 || !Objects.equals(both.prepare(1, text), 0)) continue;
            both.same("parameters", () -> both.store.parameters(1), () -> both.plain.parameters(1));
            both.indices(1);
        }
        if (args.length > 0) System.out.println(Both.COUNTS);
        Db.end();
    }

    // ---- texts

    private int upTo(int n) {
        return random.nextInt(n);
    }

    private boolean chance(int percent) {
        return random.nextInt(100) < percent;
    }

    private void add(String... added) {
        tokens.addAll(List.of(added));
    }

    private void addOne(String... of) {
        tokens.add(of[upTo(of.length)]);
    }

    private void maybe(int percent, String... added) {
        if (chance(percent)) add(added);
    }

    /** How many things a list has: a few, or as many as its bound, or one more. */
    private int count(int few, int bound) {
        return chance(4) ? bound + (chance(30) ? 1 : 0) : 1 + upTo(few);
    }

    private void list(int count, Runnable one) {
        for (int i = 0; i < count; i++) {
            if (i > 0) add(",");
            one.run();
        }
    }

    private void inBrackets(Runnable what) {
        add("(");
        what.run();
        add(")");
    }

    private void spoil() {
        int at = upTo(tokens.size());
        String other = OTHERS[upTo(OTHERS.length)];
        switch (upTo(4)) {
            case 0: tokens.remove(at); break;
            case 1: tokens.set(at, other); break;
            case 2: tokens.add(at, other); break;
            default: tokens.subList(at, tokens.size()).clear();
        }
    }

    private String text() {
        StringBuilder b = new StringBuilder();
        for (String t : tokens) {
            if (b.length() > 0 && (needsBlank(b.charAt(b.length() - 1), t.charAt(0)) || chance(20))) b.append(chance(95) ? " " : "\n");
            b.append(t);
        }
        return chance(3) ? b + "  " : b.toString();
    }

    private static boolean needsBlank(char before, char behind) {
        if ("<>|='".indexOf(before) >= 0) return "<>|='".indexOf(behind) >= 0;
        return (Character.isLetterOrDigit(before) || before == '_') && (Character.isLetterOrDigit(behind) || behind == '_');
    }

    // ---- statements

    private void statement() {
        switch (upTo(14)) {
            case 0: createTable(); break;
            case 1: createIndex(); break;
            case 2:
                add("create", "view");
                addOne("z", "v", "t");
                add("as");
                query(3);
                break;
            case 3:
                add("drop");
                addOne("table", "index", "view");
                name();
                break;
            case 4: case 5: insert(); break;
            case 6: update(); break;
            case 7:
                add("delete", "from");
                addOne("t", "u", "w");
                where(80, 4);
                break;
            case 8: transaction(); break;
            default: query(4);
        }
    }

    private void transaction() {
        addOne("begin", "commit", "rollback", "savepoint", "release");
        maybe(20, "to");
        if (chance(50)) name();
    }

    private void createTable() {
        add("create", "table");
        addOne("m", "t", "nn");
        inBrackets(() -> {
            list(count(3, 6), this::column);
            for (int i = chance(50) ? 0 : count(2, 4); i > 0; i--) {
                add(",");
                rule();
            }
        });
    }

    private void column() {
        name();
        addOne("int", "text");
        maybe(20, "not", "null");
        maybe(30, "unique");
        if (chance(30)) {
            add("default");
            literal();
        }
        if (chance(70)) return;
        add("references");
        addOne("t", "u", "m", "w", "v");
        inBrackets(this::name);
        if (chance(50)) add("on", "delete");
        else return;
        if (chance(50)) add("cascade");
        else add("set", "null");
    }

    private void literal() {
        if (chance(50)) {
            maybe(30, "-");
            number();
        } else if (chance(70)) {
            quoted();
        } else {
            add("null");
        }
    }

    private void rule() {
        boolean isCheck = chance(50);
        add(isCheck ? "check" : "unique");
        inBrackets(() -> {
            if (isCheck) expression(3);
            else list(count(2, 3), this::name);
        });
    }

    private void createIndex() {
        add("create");
        maybe(40, "unique");
        add("index");
        name();
        add("on");
        addOne("t", "u", "v", "a");
        inBrackets(() -> list(count(2, 3), this::name));
    }

    private void insert() {
        add("insert");
        if (chance(30)) {
            add("or");
            addOne("ignore", "replace");
        }
        add("into");
        addOne("t", "u", "w", "v");
        if (chance(40)) inBrackets(() -> list(1 + upTo(4), this::name));
        if (chance(40)) {
            query(2);
            return;
        }
        add("values");
        list(count(2, 8), () -> inBrackets(() -> list(1 + upTo(4), () -> expression(2))));
    }

    private void update() {
        add("update");
        addOne("t", "u", "w", "v");
        add("set");
        list(count(2, 6), () -> {
            name();
            add("=");
            expression(3);
        });
        where(60, 4);
    }

    private void where(int percent, int depth) {
        if (!chance(percent)) return;
        add("where");
        expression(depth);
    }

    // ---- queries

    private void query(int depth) {
        for (int i = chance(80) ? 1 : count(2, 4); i > 0; i--) {
            core(depth);
            if (i == 1) break;
            addOne("union", "except", "intersect");
            if (tokens.get(tokens.size() - 1).equals("union")) maybe(50, "all");
        }
        if (chance(25)) {
            add("order", "by");
            list(count(2, 4), () -> {
                if (chance(50)) name();
                else number();
                maybe(40, "desc");
            });
        }
        if (chance(80)) return;
        many("limit");
        if (chance(50)) many("offset");
    }

    private void many(String word) {
        add(word);
        if (chance(60)) number();
        else add("?");
    }

    private void core(int depth) {
        add("select");
        maybe(15, "distinct");
        list(count(2, 8), () -> item(depth));
        if (chance(85)) {
            add("from");
            int sources = chance(50) ? 1 : count(3, 4);
            for (int i = 0; i < sources; i++) source(i == 0, depth);
        }
        where(40, depth);
        if (chance(20)) {
            add("group", "by");
            list(count(2, 4), this::ref);
        }
        if (chance(85)) return;
        add("having");
        expression(depth);
    }

    private void item(int depth) {
        if (chance(12)) {
            add("*");
            return;
        }
        expression(depth);
        if (chance(75)) return;
        add("as");
        name();
    }

    private void source(boolean isFirst, int depth) {
        boolean joins = !isFirst && chance(50);
        if (joins) {
            maybe(50, "left");
            add("join");
        } else if (!isFirst) {
            add(",");
        }
        if (depth > 0 && tokens.size() < most && chance(20)) {
            inBrackets(() -> query(depth - 1));
            name();
        } else {
            addOne("t", "u", "w", "v", "vv", "t", "u");
            if (chance(40)) name();
        }
        if (!joins) return;
        add("on");
        expression(2);
    }

    // ---- expressions

    private void name() {
        addOne("a", "b", "c", "d", "t", "u", "v", "w", "x", "t", "a", "b", "i", "n_1", "abcdefghij", "p");
    }

    private void number() {
        addOne("0", "1", "2", "3", "5", "10", "999999999999999999", "000000000000000001");
    }

    private void quoted() {
        addOne("''", "'a'", "'it''s'", "'%'", "'abcdefghijklmnopqrstuvwx'", "''''", "'______________________''_'");
    }

    private void ref() {
        name();
        if (chance(60)) return;
        add(".");
        name();
    }

    private void leaf() {
        switch (upTo(8)) {
            case 0: number(); break;
            case 1: quoted(); break;
            case 2: addOne("null", "?", "$"); break;
            default: ref();
        }
    }

    private void expression(int wanted) {
        int depth = tokens.size() < most ? wanted : 0;
        int less = depth - 1;
        if (depth <= 0 || chance(25)) {
            leaf();
            return;
        }
        switch (upTo(24)) {
            case 0: inBrackets(() -> expression(less)); break;
            case 1: chain(); break;
            case 2: add("-"); single(less); break;
            case 3: add("not"); pair(less, "="); break;
            case 4: add("exists"); inBrackets(() -> query(less)); break;
            case 5: inBrackets(() -> query(less)); break;
            case 6: case 7: cases(less); break;
            case 8: case 9: case 10: call(less); break;
            case 11: case 12: case 13: case 14: case 15: test(less); break;
            case 16: case 17: pair(less, "=", "<", ">", "<=", ">=", "<>"); break;
            case 18: case 19: pair(less, "+", "-", "*", "/", "%"); break;
            case 20: pair(less, "||"); break;
            default:
                expression(less);
                addOne("and", "or");
                expression(less);
        }
    }

    /** So many operators in a row that the height gets near its bound, or over it. */
    private void chain() {
        String[][] operators = {{"+", "-"}, {"*", "/", "%"}, {"||"}, {"and"}, {"or"}, {"+", "*", "or", "and", "||"}};
        String[] chosen = operators[upTo(operators.length)];
        leaf();
        for (int i = 12 + upTo(8); i > 0; i--) {
            addOne(chosen);
            leaf();
        }
    }

    private void pair(int depth, String... operators) {
        single(depth);
        addOne(operators);
        single(depth);
    }

    private void single(int depth) {
        if (depth <= 0 || chance(60)) leaf();
        else inBrackets(() -> expression(depth));
    }

    private void test(int depth) {
        single(depth);
        if (chance(20)) {
            add("is");
            maybe(50, "not");
            add("null");
            return;
        }
        maybe(40, "not");
        switch (upTo(4)) {
            case 0:
                add("between");
                pair(depth, "and");
                break;
            case 1:
                add("in");
                inBrackets(() -> list(1 + upTo(3), this::leaf));
                break;
            case 2:
                add("in");
                inBrackets(() -> query(depth));
                break;
            default:
                add("like");
                single(depth);
        }
    }

    private void cases(int depth) {
        add("case");
        for (int i = 1 + upTo(2); i > 0; i--) {
            add("when");
            expression(depth);
            add("then");
            expression(depth);
        }
        if (chance(50)) {
            add("else");
            expression(depth);
        }
        add("end");
    }

    private void call(int depth) {
        switch (upTo(5)) {
            case 0: add("count", "(", "*", ")"); break;
            case 1:
                add("substr");
                inBrackets(() -> list(3, () -> expression(depth)));
                break;
            case 2:
                add("coalesce");
                inBrackets(() -> list(1 + upTo(3), this::leaf));
                break;
            case 3:
                addOne("length", "abs");
                inBrackets(() -> expression(depth));
                break;
            default:
                addOne("count", "sum", "min", "max");
                add("(");
                maybe(30, "distinct");
                expression(depth);
                add(")");
        }
    }
}
