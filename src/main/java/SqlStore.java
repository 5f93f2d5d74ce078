import java.util.ArrayList;
import java.util.Arrays;

/** A database for a part of SQL. */
public final class SqlStore {
    // Bounds that the document tells.
    private static final int TAPE = 800;
    private static final int SLOTS = 8;
    private static final int CLIENTS = 3;
    private static final int PARAMETERS = 12;
    private static final int TABLE_COLUMNS = 6;
    private static final int TABLE_RULES = 4;
    private static final int INDEX_NAMES = 3;
    private static final int VALUE_ROWS = 8;
    private static final int SETTINGS = 6;
    private static final int CORES = 4;
    private static final int ITEMS = 8;
    private static final int SOURCES = 4;
    private static final int GROUP_REFS = 4;
    private static final int KEYS = 4;
    private static final int OPEN_BRACKETS = 8;
    private static final int NAME_BYTES = 10;
    private static final int NUMBER_DIGITS = 18;
    private static final int QUOTED_BYTES = 24;
    private static final int HEIGHT = 16;
    private static final int QUERY_LEVELS = 4;
    private static final int SOURCE_CHECKS = 12;
    private static final int DEFINITIONS = 10;
    private static final int TEXT_BYTES = 60;
    private static final int STORED_BYTES = 24;
    private static final int RECORD_BYTES = 80;
    private static final int ROW_NUMBERS = 65535;
    private static final int STEPS = 1500;
    private static final int LIST = 60;
    private static final int PAGES = 60;
    private static final int PAGE = 256;
    // Images have room for 64 pages, so that a place that is cut to these bits lies in them.
    private static final int IMAGE = 64 * PAGE;
    private static final int IN_IMAGE = IMAGE - 1;
    private static final int HEADER = 4;
    private static final int LOAD = 252;
    private static final int JOINED_LOAD = 200;
    private static final int PIECE_BYTES = 60;
    private static final int FRAMES = 60;
    private static final int FRAME = 262;
    private static final int FRAME_CHECKED = 258;
    private static final int SAVEPOINTS = 4;

    // Unique indices of six columns and four rules, and nine indices that were created.
    private static final int INDICES = 20;
    // No statement within the bounds gets so deep; what would is refused.
    private static final int DEEPEST = 150;
    // Seventeen sources can be open at once, each with no more rows than there are steps.
    private static final int OPEN_ROWS = 17 * (STEPS + 2);
    // Four values of an index key, each of a text of 60 bytes.
    private static final int KEY_BYTES = 256;

    // The bounds of an int of 64 bits.
    private static final long LEAST = 0x8000000000000000L;
    private static final long GREATEST = 0x7fffffffffffffffL;

    // Kinds of values and types.
    private static final int NULL = 0;
    private static final int INT = 1;
    private static final int TEXT = 2;

    // Codes of a run.
    private static final int CODE_NULL = 3;
    private static final int CODE_UNIQUE = 4;
    private static final int CODE_CHECK = 5;
    private static final int CODE_REFERENCE = 6;
    private static final int CODE_BUSY = 7;
    private static final int CODE_TOO_MUCH = 8;
    private static final int CODE_NO_ROOM = 9;
    private static final int CODE_TOO_LONG = 10;
    private static final int CODE_TRANSACTION = 11;
    private static final int CODE_ERROR = 12;

    // Errors of a statement.
    private static final int ERROR_GRAMMAR = 1;
    private static final int ERROR_HEIGHT = 2;
    private static final int ERROR_NAME = 3;
    private static final int ERROR_TYPE = 4;
    private static final int ERROR_PLACE = 5;
    private static final int ERROR_NUMBER = 6;

    // Kinds of definitions, as piece 0 tells them.
    private static final int TABLE = 1;
    private static final int INDEX = 2;
    private static final int VIEW = 3;

    // Kinds of pages.
    private static final int LEAF = 1;
    private static final int INNER = 2;

    // What a query's select is being checked for: what may stand there depends on it.
    private static final int PART_CONDITION = 0;
    private static final int PART_ITEM = 1;
    private static final int PART_AGGREGATE = 2;

    // How a part of a condition bounds a column.
    private static final int EQUAL = 0;
    private static final int LOWER = 1;
    private static final int UPPER = 2;

    // Flags of columns.
    private static final int NOT_NULL = 1;
    private static final int UNIQUE = 2;

    // Tokens; a sign of one byte is its byte, a keyword 128 and its place among the keywords.
    private static final int END = 0;
    private static final int WRONG = 1;
    private static final int NAME = 2;
    private static final int NUMBER = 3;
    private static final int QUOTED = 4;
    private static final int LESS_EQUAL = 5;
    private static final int GREATER_EQUAL = 6;
    private static final int NOT_EQUAL = 7;
    private static final int BARS = 8;
    // Kinds of nodes that no token names.
    private static final int ITEM = 9;
    private static final int NEGATE = 10;
    private static final int ROW = 11;
    private static final int COLUMN = 12;

    private static final int FIRST_WORD = 128;
    private static final String WORDS = "abs all and as begin between by cascade case check coalesce commit count create default delete desc distinct drop else end except exists from group having ignore in index insert int intersect into is join left length like limit max min not null offset on or order references release replace rollback savepoint select set substr sum table text then to union unique update values view when where ";
    private static final int WORD_COUNT = 67;
    private static final int W_ABS = 128;
    private static final int W_ALL = 129;
    private static final int W_AND = 130;
    private static final int W_AS = 131;
    private static final int W_BEGIN = 132;
    private static final int W_BETWEEN = 133;
    private static final int W_BY = 134;
    private static final int W_CASCADE = 135;
    private static final int W_CASE = 136;
    private static final int W_CHECK = 137;
    private static final int W_COALESCE = 138;
    private static final int W_COMMIT = 139;
    private static final int W_COUNT = 140;
    private static final int W_CREATE = 141;
    private static final int W_DEFAULT = 142;
    private static final int W_DELETE = 143;
    private static final int W_DESC = 144;
    private static final int W_DISTINCT = 145;
    private static final int W_DROP = 146;
    private static final int W_ELSE = 147;
    private static final int W_END = 148;
    private static final int W_EXCEPT = 149;
    private static final int W_EXISTS = 150;
    private static final int W_FROM = 151;
    private static final int W_GROUP = 152;
    private static final int W_HAVING = 153;
    private static final int W_IGNORE = 154;
    private static final int W_IN = 155;
    private static final int W_INDEX = 156;
    private static final int W_INSERT = 157;
    private static final int W_INT = 158;
    private static final int W_INTERSECT = 159;
    private static final int W_INTO = 160;
    private static final int W_IS = 161;
    private static final int W_JOIN = 162;
    private static final int W_LEFT = 163;
    private static final int W_LENGTH = 164;
    private static final int W_LIKE = 165;
    private static final int W_LIMIT = 166;
    private static final int W_MAX = 167;
    private static final int W_MIN = 168;
    private static final int W_NOT = 169;
    private static final int W_NULL = 170;
    private static final int W_OFFSET = 171;
    private static final int W_ON = 172;
    private static final int W_OR = 173;
    private static final int W_ORDER = 174;
    private static final int W_REFERENCES = 175;
    private static final int W_RELEASE = 176;
    private static final int W_REPLACE = 177;
    private static final int W_ROLLBACK = 178;
    private static final int W_SAVEPOINT = 179;
    private static final int W_SELECT = 180;
    private static final int W_SET = 181;
    private static final int W_SUBSTR = 182;
    private static final int W_SUM = 183;
    private static final int W_TABLE = 184;
    private static final int W_TEXT = 185;
    private static final int W_THEN = 186;
    private static final int W_TO = 187;
    private static final int W_UNION = 188;
    private static final int W_UNIQUE = 189;
    private static final int W_UPDATE = 190;
    private static final int W_VALUES = 191;
    private static final int W_VIEW = 192;
    private static final int W_WHEN = 193;
    private static final int W_WHERE = 194;

    private static final byte[] NO_BYTES = {};
    // Far above what any run can need.
    private static final int MANY = 1000000;

    private final byte[] tape = new byte[TAPE];
    private int tapeLength;
    private final byte[] slotTexts = new byte[SLOTS * TAPE];
    private final int[] slotLengths = new int[SLOTS];
    /** How many parameters the statements in the slots have; -1 without a statement. */
    private final int[] slotParameters = new int[SLOTS];
    /** Which of the parameters are texts, a bit each. */
    private final int[] slotTextParameters = new int[SLOTS];
    private final Value[] bound = new Value[SLOTS * PARAMETERS];
    private int prepareError = -1;
    private int inUse;
    private int lastCode;
    private int rowCount;
    private int columnCount;
    private int changeCount;
    private int stepCount;
    private final Value[] told = new Value[LIST * ITEMS];
    private final Log log = new Log();
    private final Tree tree = new Tree();
    private final Parser parser = new Parser();
    private final Parser reader = new Parser();
    private final Checker checker = new Checker(tree, parser);
    private final Runner runner = new Runner(tree, bound);
    private final Changer changer = new Changer(tree, runner, checker);

    public SqlStore() {
        for (int i = 0; i < bound.length; i++) bound[i] = new Value();
        for (int i = 0; i < told.length; i++) told[i] = new Value();
        Arrays.fill(slotParameters, -1);
    }

    // ---- the tape and statements

    public int feed(int a, int b, int c, int d, int e) throws IllegalStateException {
        if (tapeLength > TAPE - 20) throw new IllegalStateException("the tape is full");
        feedNumber(a);
        feedNumber(b);
        feedNumber(c);
        feedNumber(d);
        feedNumber(e);
        return tapeLength;
    }

    private void feedNumber(int number) {
        for (int shift = 24; shift >= 0 && tapeLength < TAPE; shift -= 8) tape[tapeLength++] = (byte) (number >> shift);
    }

    public int trim(int bytes) throws IllegalArgumentException {
        if (bytes < 0 || bytes > tapeLength) throw new IllegalArgumentException("the tape has not so many bytes");
        tapeLength = bytes;
        return bytes;
    }

    public int prepare(int slot) throws IndexOutOfBoundsException, IllegalStateException {
        needSlot(slot);
        needOpen();
        int length = tapeLength;
        tapeLength = 0;
        parser.clear();
        int error = parser.read(tape, 0, length);
        prepareError = parser.errorPlace;
        if (error == 0) {
            look();
            error = checker.check(parser.statement);
            prepareError = error == 0 ? -1 : checker.errorPlace;
        }
        if (error == 0) keepStatement(slot, length);
        return error;
    }

    private void keepStatement(int slot, int length) {
        if (slot < 0 || slot >= SLOTS || length > TAPE) return;
        System.arraycopy(tape, 0, slotTexts, slot * TAPE, length);
        slotLengths[slot] = length;
        slotParameters[slot] = parser.statement.parameters;
        slotTextParameters[slot] = parser.statement.textParameters;
        for (int i = 0; i < PARAMETERS; i++) bound[slot * PARAMETERS + i].clear();
    }

    private void needSlot(int slot) {
        if (slot < 0 || slot >= SLOTS) throw new IndexOutOfBoundsException("no such slot");
    }

    private void needOpen() {
        if (!log.isOpened) throw new IllegalStateException("the database is closed");
    }

    private void needStatement(int slot) {
        if (slotParameters[slot] < 0) throw new IllegalStateException("the slot has no statement");
    }

    private void needClient(int client) {
        if (client < 0 || client >= CLIENTS) throw new IndexOutOfBoundsException("no such client");
    }

    /** Lets the pages and the definitions be those that the client in use sees. */
    private void look() {
        tree.show(log.view(inUse));
        if (checker.isUpToDate()) return;
        reader.clear();
        for (int i = 0; i < checker.definitionCount; i++) {
            Definition d = checker.definition(i);
            if (d != null && reader.read(checker.texts, d.textAt, d.textLength) == 0) checker.interpret(d, reader.statement);
        }
        checker.connect();
    }

    public int errorAt() {
        return prepareError;
    }

    public int parameters(int slot) throws IndexOutOfBoundsException {
        needSlot(slot);
        return slotParameters[slot];
    }

    private void needParameter(int slot, int place) {
        needSlot(slot);
        needStatement(slot);
        if (place < 0 || place >= slotParameters[slot] || place >= PARAMETERS) {
            throw new IllegalArgumentException("no such parameter");
        }
    }

    private boolean isTextParameter(int slot, int place) {
        return (slotTextParameters[slot] >> place & 1) != 0;
    }

    public int bindNumber(int slot, int place, long value)
            throws IndexOutOfBoundsException, IllegalStateException, IllegalArgumentException {
        needParameter(slot, place);
        if (isTextParameter(slot, place)) throw new IllegalArgumentException("the parameter is one for a text");
        bound[slot * PARAMETERS + place].setNumber(value);
        return place;
    }

    public int bindText(int slot, int place)
            throws IndexOutOfBoundsException, IllegalStateException, IllegalArgumentException {
        needParameter(slot, place);
        if (!isTextParameter(slot, place)) throw new IllegalArgumentException("the parameter is one for an int");
        if (!isTapeText()) throw new IllegalArgumentException("the tape has no text");
        bound[slot * PARAMETERS + place].setText(tape, 0, tapeLength);
        int length = tapeLength;
        tapeLength = 0;
        return length;
    }

    private boolean isTapeText() {
        if (tapeLength > TEXT_BYTES) return false;
        for (int i = 0; i < tapeLength; i++) {
            if (tape[i] < 32 || tape[i] > 126) return false;
        }
        return true;
    }

    public int bindNull(int slot, int place)
            throws IndexOutOfBoundsException, IllegalStateException, IllegalArgumentException {
        needParameter(slot, place);
        bound[slot * PARAMETERS + place].clear();
        return place;
    }

    public int use(int client) throws IndexOutOfBoundsException {
        needClient(client);
        int ahead = inUse;
        inUse = client;
        return ahead;
    }

    public int client() {
        return inUse;
    }

    public int run(int slot) throws IndexOutOfBoundsException, IllegalStateException {
        needSlot(slot);
        needOpen();
        needStatement(slot);
        forgetRun();
        readSlot(slot);
        Statement s = parser.statement;
        if (s.isTransaction()) {
            lastCode = log.transact(s, inUse);
            return lastCode;
        }
        look();
        boolean writes = s.kind != W_SELECT;
        lastCode = checker.check(s) != 0 ? CODE_ERROR : writes && log.isBusy(inUse) ? CODE_BUSY : 0;
        if (lastCode != 0) return lastCode;
        log.enter(inUse, writes);
        tree.show(log.view(inUse));
        runner.begin(slot * PARAMETERS);
        changer.begin(s, slotTexts, slot * TAPE);
        int ended = 0;
        try {
            switch (s.kind) {
                case W_SELECT: runner.answer(s.query); break;
                case W_INSERT: changer.insert(s); break;
                case W_UPDATE: changer.update(s); break;
                case W_DELETE: changer.delete(s); break;
                case W_TABLE: changer.createTable(s); break;
                case W_INDEX: changer.createIndex(s); break;
                case W_VIEW: changer.createView(s); break;
                default: changer.drop(s);
            }
        } catch (IllegalStateException stopped) {
            ended = runner.stopCode;
        } catch (UnsupportedOperationException noRoom) {
            ended = CODE_NO_ROOM;
        }
        lastCode = log.leave(inUse, writes, ended);
        stepCount = runner.stepCount;
        if (lastCode != 0) return lastCode;
        changeCount = changer.changeCount;
        if (!writes) tell(s.query);
        return 0;
    }

    private void forgetRun() {
        lastCode = 0;
        rowCount = 0;
        columnCount = 0;
        changeCount = 0;
        stepCount = 0;
    }

    private int readSlot(int slot) {
        parser.clear();
        return parser.read(slotTexts, slot * TAPE, slotLengths[slot]);
    }

    private void tell(Select q) {
        if (q == null) return;
        rowCount = Math.min(q.count, LIST);
        columnCount = q.width();
        for (int row = 0; row < rowCount; row++) {
            for (int column = 0; column < columnCount; column++) {
                told[row * ITEMS + column].set(runner.cell(q.rowAt(row) + column));
            }
        }
    }

    // ---- what the latest run told

    public int code() {
        return lastCode;
    }

    public int rows() {
        return rowCount;
    }

    public int columns() {
        return columnCount;
    }

    public int changed() {
        return changeCount;
    }

    public int steps() {
        return stepCount;
    }

    private Value toldAt(int row, int column) {
        if (row < 0 || row >= rowCount || row >= LIST) throw new IndexOutOfBoundsException("no such row");
        if (column < 0 || column >= columnCount || column >= ITEMS) throw new IndexOutOfBoundsException("no such column");
        return told[row * ITEMS + column];
    }

    public int kindAt(int row, int column) throws IndexOutOfBoundsException {
        return toldAt(row, column).kind;
    }

    public long numberAt(int row, int column) throws IndexOutOfBoundsException {
        return toldAt(row, column).number;
    }

    public int lengthAt(int row, int column) throws IndexOutOfBoundsException {
        Value v = toldAt(row, column);
        return v.kind == TEXT ? v.length : -1;
    }

    public int byteAt(int row, int column, int place) throws IndexOutOfBoundsException {
        Value v = toldAt(row, column);
        if (v.kind != TEXT || place < 0 || place >= v.length) throw new IndexOutOfBoundsException("no such place");
        return v.sign(place);
    }

    // ---- indices that are chosen

    public int indexUsed(int slot, int source) throws IndexOutOfBoundsException, IllegalStateException {
        needSlot(slot);
        needOpen();
        needStatement(slot);
        look();
        if (readSlot(slot) != 0 || checker.check(parser.statement) != 0) return -3;
        Source s = sourceOfText(source);
        return s == null ? -2 : s.index;
    }

    public int worthOf(int slot, int source) throws IndexOutOfBoundsException, IllegalStateException {
        needSlot(slot);
        needOpen();
        needStatement(slot);
        look();
        if (readSlot(slot) != 0 || checker.check(parser.statement) != 0) return -3;
        Source s = sourceOfText(source);
        return s == null ? -2 : s.worth;
    }

    private Source sourceOfText(int wanted) {
        int i = 0;
        for (Source s = parser.statement.sources; s != null; s = s.nextInText) {
            if (s.table == null) continue;
            if (i == wanted) return s;
            i++;
        }
        return null;
    }

    // ---- transactions

    public boolean inTransaction(int client) throws IndexOutOfBoundsException {
        needClient(client);
        return log.begun[client];
    }

    public int markOf(int client) throws IndexOutOfBoundsException {
        needClient(client);
        return log.marks[client];
    }

    public int writer() {
        return log.writing;
    }

    public int savepoints(int client) throws IndexOutOfBoundsException {
        needClient(client);
        return log.kept[client];
    }

    public int framesDue() throws IllegalStateException {
        needOpen();
        return log.dueFrames(inUse);
    }

    // ---- pages and trees, as the client in use sees them

    public int pages() throws IllegalStateException {
        needOpen();
        tree.show(log.view(inUse));
        return tree.pageCount();
    }

    public int freePages() throws IllegalStateException {
        needOpen();
        tree.show(log.view(inUse));
        return tree.freeCount();
    }

    public int treePages() throws IllegalStateException {
        needOpen();
        look();
        return countTreePages();
    }

    private int countTreePages() {
        int count = 0;
        int trees = countTrees();
        for (int i = 0; i < trees; i++) count += tree.collect(rootOfTree(i));
        return count;
    }

    public int pageByte(int page, int place) throws IllegalStateException, IndexOutOfBoundsException {
        needOpen();
        tree.show(log.view(inUse));
        if (page < 0 || page >= tree.pageCount()) throw new IndexOutOfBoundsException("no such page");
        if (place < 0 || place >= PAGE) throw new IndexOutOfBoundsException("no such place");
        return tree.at(page * PAGE + place);
    }

    private int countTrees() {
        int count = 1;
        for (int i = 0; i < checker.definitionCount; i++) {
            Definition d = checker.definition(i);
            if (d != null) count += d.rootCount;
        }
        return count;
    }

    /** The root of a tree; 1, that of the tree of definitions, for the first one. */
    private int rootOfTree(int wanted) {
        int i = wanted - 1;
        for (int k = 0; k < checker.definitionCount && i >= 0; k++) {
            Definition d = checker.definition(k);
            if (d == null) continue;
            if (i < d.rootCount) return d.rootOfTree(i);
            i -= d.rootCount;
        }
        return 1;
    }

    private void needTree(int wanted) {
        if (wanted < 0 || wanted >= countTrees()) throw new IndexOutOfBoundsException("no such tree");
    }

    public int trees() throws IllegalStateException {
        needOpen();
        look();
        return countTrees();
    }

    public int rootOf(int tree) throws IllegalStateException, IndexOutOfBoundsException {
        needOpen();
        look();
        needTree(tree);
        return rootOfTree(tree);
    }

    public int levelsOf(int tree) throws IllegalStateException, IndexOutOfBoundsException {
        needOpen();
        look();
        needTree(tree);
        return this.tree.levels(rootOfTree(tree));
    }

    public int entriesOf(int tree) throws IllegalStateException, IndexOutOfBoundsException {
        needOpen();
        look();
        needTree(tree);
        return this.tree.leafCells(rootOfTree(tree));
    }

    public double meanFill() throws IllegalStateException {
        needOpen();
        look();
        int load = 0;
        int leaves = 0;
        int trees = countTrees();
        for (int i = 0; i < trees; i++) {
            int count = tree.collect(rootOfTree(i));
            for (int k = 0; k < count && k < PAGES; k++) {
                if (tree.isInner(tree.found[k])) continue;
                load += tree.loadOf(tree.found[k]);
                leaves++;
            }
        }
        return leaves == 0 ? 0 : (double) load / (double) (LOAD * leaves);
    }

    // ---- the log and the file

    public int checkpoint() throws IllegalStateException {
        needOpen();
        return log.makeCheckpoint();
    }

    public int sync() throws IllegalStateException {
        needOpen();
        return log.makeSafe();
    }

    public int crash(int lost, int copied) throws IllegalStateException, IllegalArgumentException {
        needOpen();
        if (lost < 0 || lost > log.length - log.safe) throw new IllegalArgumentException("so many are not unsafe");
        if (copied < 0 || copied > log.copies()) throw new IllegalArgumentException("so many would not be copied");
        if (lost > 0 && copied > 0) throw new IllegalArgumentException("all of the log is safe in a checkpoint");
        int left = log.breakDown(lost, copied);
        forgetRun();
        prepareError = -1;
        Arrays.fill(slotParameters, -1);
        return left;
    }

    public int poke(int place, int mask) throws IllegalStateException, IndexOutOfBoundsException, IllegalArgumentException {
        if (log.isOpened) throw new IllegalStateException("the database is open");
        if (place < log.used * FRAME || place >= log.length) throw new IndexOutOfBoundsException("no such place");
        if (place < 0) throw new IndexOutOfBoundsException("no such place");
        if (mask < 1 || mask > 255) throw new IllegalArgumentException("no such mask");
        return log.change(place, mask);
    }

    public int open() throws IllegalStateException {
        if (log.isOpened) throw new IllegalStateException("the database is open");
        return log.reopen();
    }

    public boolean isOpen() {
        return log.isOpened;
    }

    public int logBytes() {
        return log.length;
    }

    public int unsafeBytes() {
        return log.length - log.safe;
    }

    public int usedFrames() {
        return log.used;
    }

    public int logByte(int place) throws IndexOutOfBoundsException {
        if (place < 0 || place >= log.length || place >= log.bytes.length) {
            throw new IndexOutOfBoundsException("no such place");
        }
        return log.bytes[place] & 255;
    }

    public int fileByte(int page, int place) throws IndexOutOfBoundsException {
        if (page < 0 || page >= PAGES) throw new IndexOutOfBoundsException("no such page");
        if (place < 0 || place >= PAGE) throw new IndexOutOfBoundsException("no such place");
        return log.file[page * PAGE + place] & 255;
    }

    public long digest() {
        long d = 58001;
        d = d * 31 + inUse;
        d = d * 31 + (log.isOpened ? 1 : 0);
        d = d * 31 + prepareError;
        d = d * 31 + lastCode;
        d = d * 31 + rowCount;
        d = d * 31 + columnCount;
        d = d * 31 + changeCount;
        d = d * 31 + stepCount;
        d = d * 31 + log.length;
        d = d * 31 + (log.length - log.safe);
        d = d * 31 + log.used;
        d = d * 31 + log.writing;
        for (int slot = 0; slot < SLOTS; slot++) d = d * 31 + slotParameters[slot];
        for (int client = 0; client < CLIENTS; client++) {
            d = d * 31 + (log.begun[client] ? 1 : 0);
            d = d * 31 + log.marks[client];
            d = d * 31 + log.kept[client];
        }
        d = digestOfRows(d);
        for (int i = 0; i < log.length && i < log.bytes.length; i++) d = d * 31 + (log.bytes[i] & 255);
        if (!log.isOpened) return d;
        look();
        return digestOfPages(d);
    }

    private long digestOfRows(long start) {
        long d = start;
        for (int row = 0; row < rowCount && row < LIST; row++) {
            for (int column = 0; column < columnCount && column < ITEMS; column++) {
                Value v = told[row * ITEMS + column];
                d = d * 31 + v.kind;
                if (v.kind == INT) d = d * 31 + v.number;
                if (v.kind != TEXT) continue;
                d = d * 31 + v.length;
                for (int i = 0; i < v.length; i++) d = d * 31 + v.sign(i);
            }
        }
        return d;
    }

    private long digestOfPages(long start) {
        long d = start;
        int count = tree.pageCount();
        d = d * 31 + count;
        d = d * 31 + tree.freeCount();
        d = d * 31 + countTreePages();
        d = d * 31 + log.dueFrames(inUse);
        for (int i = 0; i < count * PAGE; i++) d = d * 31 + tree.at(i);
        return d;
    }

    /** Null, an int or a text; kept values are used again and again. */
    private static final class Value {
        int kind;
        long number;
        int length;
        int link;
        private byte[] text = NO_BYTES;

        void clear() {
            kind = NULL;
            number = 0;
            length = 0;
            link = 0;
        }

        void setNumber(long n) {
            kind = INT;
            number = n;
            length = 0;
            link = 0;
        }

        void setText(byte[] from, int at, int count) {
            kind = NULL;
            number = 0;
            length = 0;
            link = 0;
            if (from == null || at < 0 || count < 0 || count > TEXT_BYTES || at > from.length - count) return;
            if (text.length < count) text = new byte[count <= STORED_BYTES ? STORED_BYTES : TEXT_BYTES];
            System.arraycopy(from, at, text, 0, count);
            kind = TEXT;
            length = count;
        }

        void set(Value other) {
            if (other == null || other.kind == NULL) clear();
            else if (other.kind == INT) setNumber(other.number);
            else setText(other.text, 0, other.length);
        }

        /** The two texts, one behind the other; null if they have more than 60 bytes. */
        void setJoined(Value a, Value b) {
            int count = a.length + b.length;
            clear();
            if (count > TEXT_BYTES) return;
            if (text.length < count) text = new byte[TEXT_BYTES];
            System.arraycopy(a.text, 0, text, 0, a.length);
            System.arraycopy(b.text, 0, text, a.length, b.length);
            kind = TEXT;
            length = count;
        }

        /** Takes the text between two quotes, where two quotes stand for one. */
        void setQuoted(byte[] from, int begin, int end) {
            clear();
            if (from == null || begin < 0 || end > from.length) return;
            if (text.length < QUOTED_BYTES) text = new byte[QUOTED_BYTES];
            kind = TEXT;
            for (int i = begin; i < end && length < QUOTED_BYTES; i++) {
                text[length++] = from[i];
                if (from[i] == '\'') i++;
            }
        }

        void setPart(Value of, int from, int to) {
            setText(of.text, from, to > from ? to - from : 0);
        }

        int sign(int place) {
            return place >= 0 && place < length && place < text.length ? text[place] & 255 : 0;
        }

        boolean isTrue() {
            return kind == INT && number != 0;
        }

        boolean isFalse() {
            return kind == INT && number == 0;
        }

        int order(Value other) {
            if (kind != other.kind) return kind < other.kind ? -1 : 1;
            if (kind == NULL) return 0;
            if (kind == INT) return Long.compare(number, other.number);
            int both = Math.min(length, other.length);
            for (int i = 0; i < both && i < text.length && i < other.text.length; i++) {
                if (text[i] != other.text[i]) return text[i] < other.text[i] ? -1 : 1;
            }
            return Integer.compare(length, other.length);
        }

        /** Puts it as it stands in a record; returns the place behind it. */
        int putRecord(byte[] to, int at) {
            if (kind == NULL) return putByte(to, at, 0);
            if (kind == INT) {
                int bytes = numberBytes();
                return putNumber(to, putByte(to, at, bytes), bytes, 0);
            }
            return putText(to, putByte(to, at, 16 + length));
        }

        /** Puts it as it stands in a key of an index; returns the place behind it. */
        int putKey(byte[] to, int at) {
            if (kind == NULL) return putByte(to, at, 0);
            if (kind == INT) return putNumber(to, putByte(to, at, 1), 8, 128);
            return putByte(to, putText(to, putByte(to, at, 2)), 0);
        }

        private int numberBytes() {
            for (int n = 1; n < 8; n++) {
                long rest = number >> (8 * n - 1);
                if (rest == 0 || rest == -1) return n;
            }
            return 8;
        }

        /** Puts the last bytes of the number, the highest one first and turned by a mask. */
        private int putNumber(byte[] to, int at, int count, int turned) {
            if (at < 0 || at > to.length - count) return at;
            for (int i = 0; i < count; i++) {
                int b = (int) (number >> (8 * (count - 1 - i))) & 255;
                to[at + i] = (byte) (i == 0 ? b ^ turned : b);
            }
            return at + count;
        }

        private int putText(byte[] to, int at) {
            if (at < 0 || at > to.length - length || length > text.length) return at;
            System.arraycopy(text, 0, to, at, length);
            return at + length;
        }

        private static int putByte(byte[] to, int at, int b) {
            if (at < 0 || at >= to.length) return at;
            to[at] = (byte) b;
            return at + 1;
        }

        /** Takes it from where it stands in a record; returns the place behind it. */
        int readRecord(byte[] from, int at) {
            clear();
            if (at < 0 || at >= from.length) return at;
            int head = from[at] & 255;
            if (head >= 16) {
                setText(from, at + 1, head - 16);
                return at + head - 15;
            }
            if (head == 0 || head > 8 || head > from.length - at - 1) return at + 1;
            long n = from[at + 1];
            for (int i = 2; i <= head; i++) n = n << 8 | from[at + i] & 255;
            setNumber(n);
            return at + 1 + head;
        }
    }

    /** A part of a statement: an expression, an item, a key, a column, a rule and the like. */
    private static final class Node {
        int kind;
        /** Where errors at it stand. */
        int place;
        /** Its first token, or the word ahead that an error of its condition is told at. */
        int start;
        int height;
        int type;
        int flags;
        /** A name; of a ref with two, the first one. */
        long name;
        long second;
        int secondPlace;
        Node first;
        Node next;
        /** The next aggregate of the select. */
        Node link;
        Select select;
        Source source;
        int column;
        /** Its place among the values of a group; -1 if it is not taken from there. */
        int group;
        final Value value = new Value();

        Node part(int wanted) {
            for (Node n = first; n != null; n = n.next) {
                if (n.kind == wanted) return n;
            }
            return null;
        }

        boolean has(int flag) {
            return (flags & flag) != 0;
        }
    }

    /** A core of a query; the first one stands for the query, too. Also what update, delete and check see. */
    private static final class Select {
        int place;
        Select next;
        /** How it is joined with the cores ahead: W_UNION, W_ALL, W_EXCEPT or W_INTERSECT. */
        int operator;
        boolean distinct;
        Node items;
        Source sources;
        Node where;
        Node groups;
        Node having;
        Node aggregates;
        /** Keys, limit and offset of the query. */
        Node tail;
        Select outer;
        int level;
        int part;
        int columns;
        final long[] names = new long[ITEMS];
        final int[] types = new int[ITEMS];
        /** Where its rows stand among the cells. */
        final int[] list = new int[LIST];
        int count;
        final int[] groupList = new int[LIST];
        int groupCount;
        /** The group that items are evaluated for. */
        int group;

        void begin(int newPlace) {
            place = newPlace;
            next = null;
            operator = 0;
            distinct = false;
            items = null;
            sources = null;
            where = null;
            groups = null;
            having = null;
            aggregates = null;
            tail = null;
            outer = null;
            level = 0;
            part = PART_CONDITION;
            columns = 0;
            count = 0;
            groupCount = 0;
            group = 0;
        }

        boolean isGrouped() {
            return groups != null || having != null || aggregates != null;
        }

        void addColumn(long name, int type) {
            if (columns < ITEMS) {
                names[columns] = name;
                types[columns] = type;
            }
            columns++;
        }

        int width() {
            return Math.min(columns, ITEMS);
        }

        int typeOf(int column) {
            return column >= 0 && column < width() ? types[column] : NULL;
        }

        int columnOf(long name) {
            for (int i = 0; i < width(); i++) {
                if (names[i] == name) return i;
            }
            return -1;
        }

        int countOf(long name) {
            int found = 0;
            for (int i = 0; i < width(); i++) {
                if (names[i] == name) found++;
            }
            return found;
        }

        boolean isWellNamed() {
            for (int i = 0; i < width(); i++) {
                if (names[i] == 0 || countOf(names[i]) > 1) return false;
            }
            return true;
        }

        int rowAt(int row) {
            return row >= 0 && row < count && row < LIST ? list[row] : 0;
        }
    }

    /** A source of a core, with the row that is taken up and the index that finds its rows. */
    private static final class Source {
        long name;
        int place;
        long called;
        int calledPlace;
        /** Zero, W_JOIN or W_LEFT. */
        int join;
        Node on;
        Select select;
        Definition table;
        Select owner;
        int position;
        /** Whether it is seen by what is checked now. */
        boolean seen;
        Source next;
        Source nextInText;
        final Value[] row = new Value[ITEMS];
        int index;
        int worth;
        final Node[] equalParts = new Node[INDEX_NAMES];
        int equalCount;
        Node lower;
        Node upper;

        Source() {
            for (int i = 0; i < row.length; i++) row[i] = new Value();
        }

        void begin(int newPlace) {
            name = 0;
            place = newPlace;
            called = 0;
            calledPlace = newPlace;
            join = 0;
            on = null;
            select = null;
            table = null;
            owner = null;
            position = 0;
            seen = false;
            next = null;
            nextInText = null;
            index = -1;
            worth = 0;
            equalCount = 0;
            lower = null;
            upper = null;
        }

        int columnOf(long wanted) {
            if (table == null && select == null) return -1;
            long[] names = table != null ? table.names : select.names;
            int width = table != null ? table.columnCount : select.columns;
            for (int i = 0; i < width && i < names.length; i++) {
                if (names[i] == wanted) return i;
            }
            return -1;
        }

        int typeOf(int column) {
            if (table == null && select == null) return NULL;
            int[] types = table != null ? table.types : select.types;
            return column >= 0 && column < types.length ? types[column] : NULL;
        }

        long nameOf(int column) {
            if (table == null && select == null) return 0;
            long[] names = table != null ? table.names : select.names;
            return column >= 0 && column < names.length ? names[column] : 0;
        }

        int width() {
            if (table != null) return table.columnCount;
            return select != null ? Math.min(select.columns, ITEMS) : 0;
        }

        /** Chooses the index by the conditions that count; they have been checked. */
        void choose() {
            index = -1;
            worth = 0;
            if (table == null) return;
            for (int i = 0; i < table.indexCount; i++) {
                int width = table.widthOf(i);
                int k = 0;
                for (; k < width && usable(EQUAL, table.indexColumn(i, k)) != null; k++) {}
                int found = 2 * k;
                int column = table.indexColumn(i, k);
                if (k < width && (usable(LOWER, column) != null || usable(UPPER, column) != null)) found++;
                if (found > worth) {
                    worth = found;
                    index = i;
                }
            }
        }

        /** Keeps the parts by which the chosen index finds its entries. */
        void keepParts() {
            equalCount = 0;
            if (table == null || index < 0) return;
            int width = table.widthOf(index);
            for (int k = 0; k < width && k < INDEX_NAMES; k++) {
                Node part = usable(EQUAL, table.indexColumn(index, k));
                if (part == null) break;
                equalParts[k] = part;
                equalCount = k + 1;
            }
            if (equalCount == width) return;
            lower = usable(LOWER, table.indexColumn(index, equalCount));
            upper = usable(UPPER, table.indexColumn(index, equalCount));
        }

        /** The first part that counts for this source and is usable so. */
        private Node usable(int role, int column) {
            Node part = usableIn(on, role, column, 0);
            if (part != null || join == W_LEFT || owner == null) return part;
            return usableIn(owner.where, role, column, 0);
        }

        private Node usableIn(Node n, int role, int column, int depth) {
            if (n == null || depth > DEEPEST) return null;
            if (n.kind != W_AND) return bound(n, role, column) != null ? n : null;
            Node left = n.first;
            Node part = usableIn(left, role, column, depth + 1);
            return part != null || left == null ? part : usableIn(left.next, role, column, depth + 1);
        }

        /** What bounds the column so in this part of a condition; null if it is not usable so. */
        Node bound(Node part, int role, int column) {
            Node a = part.first;
            Node b = a == null ? null : a.next;
            if (b == null) return null;
            if (part.kind == W_BETWEEN) {
                Node c = b.next;
                if (c == null || role == EQUAL || part.flags != 0) return null;
                if (!isColumn(a, column) || !isFree(b, 0) || !isFree(c, 0)) return null;
                return role == LOWER ? b : c;
            }
            if (isColumn(a, column) && roleOf(part.kind) == role && isFree(b, 0)) return b;
            if (isColumn(b, column) && mirrored(roleOf(part.kind)) == role && isFree(a, 0)) return a;
            return null;
        }

        private static int roleOf(int operator) {
            if (operator == '=') return EQUAL;
            if (operator == '>' || operator == GREATER_EQUAL) return LOWER;
            return operator == '<' || operator == LESS_EQUAL ? UPPER : -1;
        }

        private static int mirrored(int role) {
            if (role == LOWER) return UPPER;
            return role == UPPER ? LOWER : role;
        }

        private boolean isColumn(Node n, int column) {
            return n.kind == NAME && n.source == this && n.column == column;
        }

        /** Whether it has no query in it, and no ref to this source or a later one of its core. */
        private boolean isFree(Node n, int depth) {
            if (depth > DEEPEST || n.select != null) return false;
            if (n.kind == NAME) {
                return n.source == null || n.source.owner != owner || n.source.position < position;
            }
            for (Node m = n.first; m != null; m = m.next) {
                if (!isFree(m, depth + 1)) return false;
            }
            return true;
        }
    }

    /** A table, index or view, as its text tells it. */
    private static final class Definition {
        int kind;
        int number;
        long name;
        int textAt;
        int textLength;
        long target;
        int columnCount;
        private final Node[] columns = new Node[TABLE_COLUMNS];
        final long[] names = new long[TABLE_COLUMNS];
        final int[] types = new int[TABLE_COLUMNS];
        Node rules;
        final int[] roots = new int[INDICES];
        int rootCount;
        int indexCount;
        /** How many of its indices are told by its own text. */
        int ownCount;
        private final int[] indexRoots = new int[INDICES];
        private final boolean[] indexUnique = new boolean[INDICES];
        private final int[] indexWidths = new int[INDICES];
        private final int[] indexColumns = new int[INDICES * INDEX_NAMES];
        /** What its checks see. */
        final Select scope = new Select();
        final Source source = new Source();

        void begin(int newKind, int newNumber) {
            kind = newKind;
            number = newNumber;
            name = 0;
            textAt = 0;
            textLength = 0;
            target = 0;
            columnCount = 0;
            rules = null;
            rootCount = 0;
            indexCount = 0;
            ownCount = 0;
            scope.begin(0);
            source.begin(0);
        }

        void addRoot(int root) {
            if (rootCount < roots.length) roots[rootCount++] = root;
        }

        int root() {
            return rootOfTree(0);
        }

        int rootOfTree(int i) {
            return i >= 0 && i < rootCount ? roots[i] : 0;
        }

        /** Takes the columns and rules of a create table. */
        void fill(Statement s) {
            name = s.name;
            target = s.target;
            if (kind != TABLE) return;
            rules = s.more;
            for (Node n = s.list; n != null && columnCount < TABLE_COLUMNS; n = n.next) {
                columns[columnCount] = n;
                names[columnCount] = n.name;
                types[columnCount] = n.type;
                columnCount++;
            }
            addOwnIndices();
            source.table = this;
            source.called = name;
            source.owner = scope;
            source.seen = true;
            scope.sources = source;
        }

        void shareNames(Definition other) {
            columnCount = other.columnCount;
            for (int i = 0; i < columnCount && i < TABLE_COLUMNS; i++) names[i] = other.names[i];
        }

        private void addOwnIndices() {
            for (int i = 0; i < columnCount; i++) {
                if (columns[i].has(UNIQUE)) addIndex(rootOfTree(1 + indexCount), true, null, names[i]);
            }
            for (Node rule = rules; rule != null; rule = rule.next) {
                if (rule.kind == W_UNIQUE) addIndex(rootOfTree(1 + indexCount), true, rule.first, 0);
            }
            ownCount = indexCount;
        }

        /** Adds an index of the columns that a list tells, or of the one of a name without a list. */
        void addIndex(int root, boolean unique, Node names, long single) {
            if (indexCount >= INDICES) return;
            int width = 0;
            if (names == null) indexColumns[indexCount * INDEX_NAMES + width++] = columnOf(single);
            for (Node n = names; n != null; n = n.next) {
                if (width < INDEX_NAMES) indexColumns[indexCount * INDEX_NAMES + width++] = columnOf(n.name);
            }
            indexRoots[indexCount] = root;
            indexUnique[indexCount] = unique;
            indexWidths[indexCount] = width;
            indexCount++;
        }

        Node column(int i) {
            return i >= 0 && i < columnCount ? columns[i] : null;
        }

        int columnOf(long wanted) {
            for (int i = 0; i < columnCount; i++) {
                if (names[i] == wanted) return i;
            }
            return -1;
        }

        int typeOf(int i) {
            return i >= 0 && i < columnCount ? types[i] : NULL;
        }

        int rootOfIndex(int i) {
            return i >= 0 && i < indexCount ? indexRoots[i] : 0;
        }

        boolean isUniqueIndex(int i) {
            return i >= 0 && i < indexCount && indexUnique[i];
        }

        int widthOf(int i) {
            return i >= 0 && i < indexCount ? indexWidths[i] : 0;
        }

        int indexColumn(int i, int k) {
            return i >= 0 && i < indexCount && k >= 0 && k < indexWidths[i] ? indexColumns[i * INDEX_NAMES + k] : -1;
        }

        /** The unique index that its text tells for this column alone; -1 if there is none. */
        int indexAlone(int column) {
            for (int i = 0; i < ownCount; i++) {
                if (indexWidths[i] == 1 && indexColumn(i, 0) == column) return i;
            }
            return -1;
        }
    }

    /** What a text was read as. */
    private static final class Statement {
        /** W_TABLE, W_INDEX and W_VIEW are creates; the others are called as their first word. */
        int kind;
        /** What is dropped; or replace, or ignore; unique; rollback to. */
        int mode;
        long name;
        int namePlace;
        long target;
        int targetPlace;
        /** Columns of a table; names behind a table; settings. */
        Node list;
        /** Rules of a table; rows behind values. */
        Node more;
        Select query;
        /** What the expressions of update and delete see. */
        Select scope;
        int parameters;
        int textParameters;
        int begin;
        int end;
        Source sources;
        Source lastSource;

        void clear() {
            kind = 0;
            mode = 0;
            name = 0;
            namePlace = 0;
            target = 0;
            targetPlace = 0;
            list = null;
            more = null;
            query = null;
            scope = null;
            parameters = 0;
            textParameters = 0;
            begin = 0;
            end = 0;
            sources = null;
            lastSource = null;
        }

        void addSource(Source s) {
            if (lastSource == null) sources = s;
            else lastSource.nextInText = s;
            lastSource = s;
        }

        boolean isTransaction() {
            return kind == W_BEGIN || kind == W_COMMIT || kind == W_ROLLBACK || kind == W_SAVEPOINT || kind == W_RELEASE;
        }

        boolean isCreate() {
            return kind == W_TABLE || kind == W_INDEX || kind == W_VIEW;
        }
    }

    /** Reads texts by the grammar; what it makes of them is kept till clear(). */
    private static final class Parser {
        final Statement statement = new Statement();
        int errorPlace;
        private final byte[] text = new byte[TAPE];
        private int length;
        /** The tokens of the text, with the end behind them: what they are, where they stand, what they tell. */
        private final int[] tokens = new int[TAPE + 1];
        private final int[] places = new int[TAPE + 1];
        private final long[] values = new long[TAPE + 1];
        private int tokenCount;
        /** The token that is looked at, and how many have been, it counted. */
        private int token;
        private int place;
        private long value;
        private int looked;
        private final long[] words = new long[WORD_COUNT];
        private int open;
        /** The first place of something too high. */
        private int tall;
        /** The innermost core that is being read. */
        private Select core;
        private boolean inView;
        private final ArrayList<Node> nodes = new ArrayList<Node>();
        private final ArrayList<Select> selects = new ArrayList<Select>();
        private final ArrayList<Source> sources = new ArrayList<Source>();
        /** How many nodes, selects and sources are taken. */
        private final int[] taken = new int[3];

        Parser() {
            int word = 0;
            int letters = 0;
            for (int i = 0; i < WORDS.length() && word < WORD_COUNT; i++) {
                char c = WORDS.charAt(i);
                if (c == ' ') {
                    words[word] <<= 6 * (NAME_BYTES - letters);
                    word++;
                    letters = 0;
                } else {
                    words[word] = words[word] * 64 + letterCode(c);
                    letters++;
                }
            }
        }

        void clear() {
            taken[0] = 0;
            taken[1] = 0;
            taken[2] = 0;
        }

        /** Reads a text as a statement; returns error 1 or 2, or 0 for none. */
        int read(byte[] from, int begin, int count) {
            statement.clear();
            inView = false;
            splitText(from, begin, count);
            reserveNodes();
            statement.begin = places[0];
            try {
                statement.kind = kindOfStatement();
                switch (statement.kind) {
                    case W_TABLE: createTable(); break;
                    case W_INDEX: createIndex(); break;
                    case W_VIEW: createView(); break;
                    case W_DROP: drop(); break;
                    case W_INSERT: insert(); break;
                    case W_UPDATE: update(); break;
                    case W_DELETE: delete(); break;
                    case W_SELECT: statement.query = query(); break;
                    case W_ROLLBACK: rollback(); break;
                    case W_SAVEPOINT: case W_RELEASE: nameOfStatement(); break;
                    case W_BEGIN: case W_COMMIT: break;
                    default: fail();
                }
                if (token != END) fail();
            } catch (IllegalStateException e) {
                errorPlace = place;
                return ERROR_GRAMMAR;
            }
            errorPlace = tall;
            return tall <= TAPE ? ERROR_HEIGHT : 0;
        }

        /** Reads the query of a view from the text that made it; null if it is none. */
        Select readView(byte[] from, int begin, int count) {
            inView = true;
            splitText(from, begin, count);
            reserveNodes();
            try {
                expect(W_CREATE);
                expect(W_VIEW);
                takeName();
                expect(W_AS);
                return query();
            } catch (IllegalStateException e) {
                return null;
            }
        }

        private void fail() {
            throw new IllegalStateException();
        }

        // ---- what texts are read into

        /** No text has more nodes than two for each token. */
        private void reserveNodes() {
            int most = taken[0] + 2 * tokenCount;
            for (int i = nodes.size(); i < most; i++) nodes.add(new Node());
        }

        private Node node(int kind, int nodePlace) {
            if (taken[0] >= nodes.size()) throw new IllegalStateException();
            Node n = nodes.get(taken[0]++);
            n.kind = kind;
            n.place = nodePlace;
            n.start = nodePlace;
            n.height = 1;
            n.type = NULL;
            n.flags = 0;
            n.name = 0;
            n.second = 0;
            n.secondPlace = nodePlace;
            n.first = null;
            n.next = null;
            n.link = null;
            n.select = null;
            n.source = null;
            n.column = -1;
            n.group = -1;
            n.value.kind = NULL;
            n.value.length = 0;
            return n;
        }

        private Select select(int selectPlace) {
            if (taken[1] >= selects.size()) selects.add(new Select());
            Select s = selects.get(taken[1]++);
            s.begin(selectPlace);
            return s;
        }

        private Source source(int sourcePlace) {
            if (taken[2] >= sources.size()) sources.add(new Source());
            Source s = sources.get(taken[2]++);
            s.begin(sourcePlace);
            return s;
        }

        // ---- tokens

        /** Splits a text into its tokens, as far as none is wrong, and looks at the first one. */
        private void splitText(byte[] from, int begin, int count) {
            length = 0;
            tokenCount = 0;
            looked = 0;
            open = 0;
            tall = TAPE + 1;
            core = null;
            if (begin >= 0 && count >= 0 && count <= TAPE && begin <= from.length - count) {
                System.arraycopy(from, begin, text, 0, count);
                length = count;
            }
            int at = 0;
            for (int i = 0; i <= TAPE; i++) {
                for (; at < length && (text[at] == ' ' || text[at] == '\n'); at++) {}
                int b = byteOf(at);
                places[i] = at;
                tokens[i] = at >= length ? END : WRONG;
                if (isLetter(b)) at = readWord(at, i);
                else if (isDigit(b)) at = readNumber(at, i);
                else if (b == '\'') at = readQuoted(at, i);
                else if (b != 0) at = readSign(at, i);
                tokenCount = i + 1;
                if (tokens[i] <= WRONG) break;
                statement.end = inView ? statement.end : at;
            }
            advance();
        }

        private int byteOf(int at) {
            return at >= 0 && at < length && at < TAPE ? text[at] & 255 : 0;
        }

        private static boolean isLetter(int b) {
            return b >= 'a' && b <= 'z';
        }

        private static boolean isDigit(int b) {
            return b >= '0' && b <= '9';
        }

        /** Names are numbers, six bits for each byte, in the order of texts; 0 for a byte that no word has. */
        private static int letterCode(int b) {
            if (b >= 'a' && b <= 'z') return b - 'a' + 1;
            if (b >= '0' && b <= '9') return b - '0' + 27;
            return b == '_' ? 37 : 0;
        }

        private int readWord(int from, int i) {
            long name = 0;
            int at = from;
            for (; at < length && letterCode(byteOf(at)) > 0; at++) name = name * 64 + letterCode(byteOf(at));
            if (at - from > NAME_BYTES) return at;
            values[i] = name << 6 * (NAME_BYTES - at + from);
            tokens[i] = wordOf(values[i]);
            return at;
        }

        private int wordOf(long name) {
            int low = 0;
            int high = WORD_COUNT - 1;
            for (int i = 0; low <= high && i < WORD_COUNT; i++) {
                int middle = (low + high) / 2;
                if (middle < 0 || middle >= words.length) return NAME;
                if (words[middle] == name) return FIRST_WORD + middle;
                if (words[middle] < name) low = middle + 1;
                else high = middle - 1;
            }
            return NAME;
        }

        private int readNumber(int from, int i) {
            int at = from;
            values[i] = 0;
            for (; at < length && isDigit(byteOf(at)); at++) values[i] = values[i] * 10 + byteOf(at) - '0';
            if (at - from <= NUMBER_DIGITS) tokens[i] = NUMBER;
            return at;
        }

        /** A quoted text tells where it ends. */
        private int readQuoted(int from, int i) {
            int count = 0;
            for (int at = from + 1; at < length; at++) {
                int b = byteOf(at);
                if (b < 32 || b > 126) return at;
                if (b == '\'' && byteOf(at + 1) != '\'') {
                    values[i] = at;
                    if (count <= QUOTED_BYTES) tokens[i] = QUOTED;
                    return at + 1;
                }
                if (b == '\'') at++;
                count++;
            }
            return length;
        }

        private int readSign(int from, int i) {
            int b = byteOf(from);
            int behind = byteOf(from + 1);
            switch (b) {
                case '(': case ')': case ',': case '.': case '*': case '+': case '-': case '/': case '%': case '=':
                case '?': case '$':
                    tokens[i] = b;
                    break;
                case '<':
                    tokens[i] = behind == '=' ? LESS_EQUAL : behind == '>' ? NOT_EQUAL : b;
                    break;
                case '>':
                    tokens[i] = behind == '=' ? GREATER_EQUAL : b;
                    break;
                case '|':
                    if (behind == '|') tokens[i] = BARS;
                    break;
                default:
            }
            return tokens[i] >= LESS_EQUAL && tokens[i] <= BARS ? from + 2 : from + 1;
        }

        private void advance() {
            if (looked >= tokenCount || looked > TAPE) return;
            token = tokens[looked];
            place = places[looked];
            value = values[looked];
            looked++;
        }

        private void expect(int wanted) {
            if (token != wanted) fail();
            advance();
        }

        /** Passes over a word that may stand here. */
        private boolean passes(int word) {
            if (token != word) return false;
            advance();
            return true;
        }

        private long takeName() {
            if (token != NAME) fail();
            long name = value;
            advance();
            return name;
        }

        private void openBracket() {
            if (token != '(' || open >= OPEN_BRACKETS) fail();
            open++;
            advance();
        }

        private void closeBracket() {
            if (token != ')') fail();
            open--;
            advance();
        }

        // ---- statements

        /** Passes the words that tell what a statement is; of a select nothing. */
        private int kindOfStatement() {
            int first = token;
            switch (first) {
                case W_SELECT:
                    return first;
                case W_CREATE:
                    advance();
                    break;
                case W_DROP: case W_INSERT: case W_UPDATE: case W_DELETE: case W_ROLLBACK: case W_SAVEPOINT:
                case W_RELEASE: case W_BEGIN: case W_COMMIT:
                    advance();
                    return first;
                default:
                    fail();
            }
            if (passes(W_UNIQUE)) {
                statement.mode = W_UNIQUE;
                if (token != W_INDEX) fail();
            }
            if (token != W_TABLE && token != W_INDEX && token != W_VIEW) fail();
            int made = token;
            advance();
            return made;
        }

        private void nameOfStatement() {
            statement.namePlace = place;
            statement.name = takeName();
        }

        private void targetOfStatement() {
            statement.targetPlace = place;
            statement.target = takeName();
        }

        private void rollback() {
            if (!passes(W_TO)) return;
            statement.mode = W_TO;
            nameOfStatement();
        }

        private void createTable() {
            nameOfStatement();
            openBracket();
            Node lastColumn = column();
            statement.list = lastColumn;
            int columns = 1;
            Node lastRule = null;
            int rules = 0;
            for (int i = 0; token == ',' && i < TAPE; i++) {
                advance();
                if (token == W_UNIQUE || token == W_CHECK) {
                    if (rules >= TABLE_RULES) fail();
                    Node rule = rule();
                    if (lastRule == null) statement.more = rule;
                    else lastRule.next = rule;
                    lastRule = rule;
                    rules++;
                } else {
                    if (rules > 0 || columns >= TABLE_COLUMNS) fail();
                    lastColumn.next = column();
                    lastColumn = lastColumn.next;
                    columns++;
                }
            }
            closeBracket();
        }

        private Node column() {
            Node c = node(COLUMN, place);
            c.name = takeName();
            c.type = token == W_INT ? INT : TEXT;
            if (token != W_INT && token != W_TEXT) fail();
            advance();
            if (passes(W_NOT)) {
                expect(W_NULL);
                c.flags |= NOT_NULL;
            }
            if (passes(W_UNIQUE)) c.flags |= UNIQUE;
            if (token == W_DEFAULT) c.first = defaultOf();
            if (token == W_REFERENCES) {
                Node reference = reference();
                if (c.first == null) c.first = reference;
                else c.first.next = reference;
            }
            return c;
        }

        private Node defaultOf() {
            Node d = node(W_DEFAULT, place);
            advance();
            boolean minus = passes('-');
            if (token == NUMBER) {
                d.type = INT;
                d.value.setNumber(minus ? -value : value);
            } else if (minus) {
                fail();
            } else if (token == QUOTED) {
                d.type = TEXT;
                d.value.setQuoted(text, place + 1, (int) value);
            } else if (token != W_NULL) {
                fail();
            }
            advance();
            return d;
        }

        private Node reference() {
            advance();
            Node r = node(W_REFERENCES, place);
            r.name = takeName();
            openBracket();
            r.secondPlace = place;
            r.second = takeName();
            closeBracket();
            if (!passes(W_ON)) return r;
            expect(W_DELETE);
            r.flags = token;
            if (passes(W_CASCADE)) return r;
            expect(W_SET);
            expect(W_NULL);
            return r;
        }

        private Node rule() {
            Node r = node(token, place);
            advance();
            openBracket();
            r.first = r.kind == W_UNIQUE ? names(INDEX_NAMES) : expression();
            closeBracket();
            return r;
        }

        private Node names(int most) {
            Node first = null;
            Node tail = null;
            for (int i = 0; i < TAPE && (i == 0 || passes(',')); i++) {
                if (i >= most) fail();
                Node n = node(NAME, place);
                n.name = takeName();
                if (tail == null) first = n;
                else tail.next = n;
                tail = n;
            }
            return first;
        }

        private void createIndex() {
            nameOfStatement();
            expect(W_ON);
            targetOfStatement();
            openBracket();
            statement.list = names(INDEX_NAMES);
            closeBracket();
        }

        private void createView() {
            nameOfStatement();
            expect(W_AS);
            statement.query = query();
        }

        private void drop() {
            if (token != W_TABLE && token != W_INDEX && token != W_VIEW) fail();
            statement.mode = token;
            advance();
            nameOfStatement();
        }

        private void insert() {
            if (passes(W_OR)) {
                statement.mode = token;
                if (!passes(W_IGNORE)) expect(W_REPLACE);
            }
            expect(W_INTO);
            targetOfStatement();
            if (token == '(') {
                openBracket();
                statement.list = names(TAPE);
                closeBracket();
            }
            if (token != W_VALUES) {
                statement.query = query();
                return;
            }
            advance();
            statement.more = row();
            Node tail = statement.more;
            for (int i = 1; token == ',' && i < TAPE; i++) {
                advance();
                if (i >= VALUE_ROWS) fail();
                tail.next = row();
                tail = tail.next;
            }
        }

        private Node row() {
            Node r = node(ROW, place);
            openBracket();
            r.first = expressions();
            closeBracket();
            return r;
        }

        private void update() {
            targetOfStatement();
            seeTarget();
            expect(W_SET);
            statement.list = setting();
            Node tail = statement.list;
            for (int i = 1; token == ',' && i < TAPE; i++) {
                advance();
                if (i >= SETTINGS) fail();
                tail.next = setting();
                tail = tail.next;
            }
            whereOfTarget();
        }

        private Node setting() {
            Node n = node('=', place);
            n.name = takeName();
            expect('=');
            n.first = expression();
            return n;
        }

        private void delete() {
            expect(W_FROM);
            targetOfStatement();
            seeTarget();
            whereOfTarget();
        }

        private void seeTarget() {
            Source s = source(statement.targetPlace);
            s.name = statement.target;
            s.called = statement.target;
            statement.addSource(s);
            statement.scope = select(statement.targetPlace);
            statement.scope.sources = s;
        }

        private void whereOfTarget() {
            if (token == W_WHERE) statement.scope.where = condition();
        }

        // ---- queries

        private Select query() {
            Select first = core();
            Select tail = first;
            for (int i = 1; (token == W_UNION || token == W_EXCEPT || token == W_INTERSECT) && i < TAPE; i++) {
                int operator = token;
                advance();
                if (operator == W_UNION && passes(W_ALL)) operator = W_ALL;
                if (i >= CORES) fail();
                tail.next = core();
                tail = tail.next;
                tail.operator = operator;
            }
            Node last = null;
            if (passes(W_ORDER)) {
                expect(W_BY);
                for (int i = 0; i < TAPE && (i == 0 || passes(',')); i++) {
                    if (i >= KEYS) fail();
                    last = behind(first, last, key());
                }
            }
            if (token == W_LIMIT) {
                last = behind(first, last, many());
                if (token == W_OFFSET) behind(first, last, many());
            }
            return first;
        }

        /** Puts a node behind the last one of the tail of a query; returns it. */
        private static Node behind(Select q, Node last, Node added) {
            if (last == null) q.tail = added;
            else last.next = added;
            return added;
        }

        private Node key() {
            if (token != NAME && token != NUMBER) fail();
            Node k = node(token, place);
            k.name = value;
            advance();
            if (passes(W_DESC)) k.flags = W_DESC;
            return k;
        }

        /** The word limit or offset, and how many. */
        private Node many() {
            Node n = node(token, place);
            advance();
            if (token == NUMBER) n.first = number();
            else if (token == '?') n.first = parameter();
            else fail();
            return n;
        }

        private Select core() {
            Select c = select(place);
            expect(W_SELECT);
            Select outer = core;
            core = c;
            c.distinct = passes(W_DISTINCT);
            c.items = items();
            if (token == W_FROM) c.sources = sourceList();
            if (token == W_WHERE) c.where = condition();
            if (passes(W_GROUP)) {
                expect(W_BY);
                Node tail = null;
                for (int i = 0; i < TAPE && (i == 0 || passes(',')); i++) {
                    if (i >= GROUP_REFS) fail();
                    Node n = ref();
                    if (tail == null) c.groups = n;
                    else tail.next = n;
                    tail = n;
                }
            }
            if (token == W_HAVING) c.having = condition();
            core = outer;
            return c;
        }

        /** The condition behind a word. */
        private Node condition() {
            int word = place;
            advance();
            Node n = expression();
            n.start = word;
            return n;
        }

        private Node items() {
            Node first = item();
            Node tail = first;
            for (int i = 1; token == ',' && i < TAPE; i++) {
                advance();
                if (i >= ITEMS) fail();
                tail.next = item();
                tail = tail.next;
            }
            return first;
        }

        private Node item() {
            Node n = node(ITEM, place);
            if (passes('*')) return n;
            n.first = expression();
            if (passes(W_AS)) n.name = takeName();
            return n;
        }

        private Source sourceList() {
            advance();
            Source first = oneSource(0);
            Source tail = first;
            for (int i = 1; (token == ',' || token == W_JOIN || token == W_LEFT) && i < TAPE; i++) {
                int join = token == ',' ? 0 : token;
                if (passes(W_LEFT)) expect(W_JOIN);
                else advance();
                if (i >= SOURCES) fail();
                tail.next = oneSource(join);
                tail = tail.next;
            }
            return first;
        }

        private Source oneSource(int join) {
            Source s = source(place);
            s.join = join;
            if (token == '(') {
                openBracket();
                s.select = query();
                closeBracket();
                s.calledPlace = place;
                s.called = takeName();
            } else {
                s.name = takeName();
                s.called = s.name;
                if (!inView) statement.addSource(s);
                s.calledPlace = token == NAME ? place : s.place;
                if (token == NAME) s.called = takeName();
            }
            if (join == 0) return s;
            if (token != W_ON) fail();
            s.on = condition();
            return s;
        }

        private Node ref() {
            Node n = node(NAME, place);
            n.name = takeName();
            if (!passes('.')) return n;
            n.secondPlace = place;
            n.second = takeName();
            return n;
        }

        // ---- expressions

        private Node expressions() {
            Node first = startedExpression();
            Node tail = first;
            for (int i = 0; token == ',' && i < TAPE; i++) {
                advance();
                tail.next = startedExpression();
                tail = tail.next;
            }
            return first;
        }

        private Node startedExpression() {
            int from = place;
            Node n = expression();
            n.start = from;
            return n;
        }

        /** Tells the height of a thing by what is in it. */
        private Node raised(Node n) {
            int most = 0;
            for (Node m = n.first; m != null; m = m.next) most = Math.max(most, m.height);
            n.height = most + 1;
            if (n.height > HEIGHT && n.place < tall) tall = n.place;
            return n;
        }

        private Node pair(int kind, int operatorPlace, Node left, Node right) {
            Node n = node(kind, operatorPlace);
            n.first = left;
            left.next = right;
            return raised(n);
        }

        private Node expression() {
            Node left = both();
            for (int i = 0; token == W_OR && i < TAPE; i++) {
                int operatorPlace = place;
                advance();
                left = pair(W_OR, operatorPlace, left, both());
            }
            return left;
        }

        private Node both() {
            Node left = denied();
            for (int i = 0; token == W_AND && i < TAPE; i++) {
                int operatorPlace = place;
                advance();
                left = pair(W_AND, operatorPlace, left, denied());
            }
            return left;
        }

        private Node denied() {
            if (token != W_NOT) return test();
            Node n = node(W_NOT, place);
            advance();
            n.first = test();
            return raised(n);
        }

        private Node test() {
            Node left = total();
            int operator = token;
            int operatorPlace = place;
            switch (token) {
                case '=': case '<': case '>': case LESS_EQUAL: case GREATER_EQUAL: case NOT_EQUAL:
                    advance();
                    return pair(operator, operatorPlace, left, total());
                case W_IS:
                    return isNull(left);
                case W_NOT:
                    advance();
                    if (token != W_BETWEEN && token != W_IN && token != W_LIKE) fail();
                    return compared(left, W_NOT);
                case W_BETWEEN: case W_IN: case W_LIKE:
                    return compared(left, 0);
                default:
                    return left;
            }
        }

        private Node isNull(Node left) {
            Node n = node(W_IS, place);
            advance();
            if (passes(W_NOT)) n.flags = W_NOT;
            expect(W_NULL);
            n.first = left;
            return raised(n);
        }

        /** Between, in and like, and what stands behind them. */
        private Node compared(Node left, int not) {
            Node n = node(token, place);
            n.flags = not;
            n.first = left;
            advance();
            if (n.kind == W_BETWEEN) {
                left.next = total();
                expect(W_AND);
                left.next.next = total();
            } else if (n.kind == W_LIKE) {
                left.next = total();
            } else {
                openBracket();
                if (token == W_SELECT) n.select = query();
                else left.next = expressions();
                closeBracket();
            }
            return raised(n);
        }

        private Node total() {
            Node left = product();
            for (int i = 0; (token == '+' || token == '-') && i < TAPE; i++) {
                int operator = token;
                int operatorPlace = place;
                advance();
                left = pair(operator, operatorPlace, left, product());
            }
            return left;
        }

        private Node product() {
            Node left = chain();
            for (int i = 0; (token == '*' || token == '/' || token == '%') && i < TAPE; i++) {
                int operator = token;
                int operatorPlace = place;
                advance();
                left = pair(operator, operatorPlace, left, chain());
            }
            return left;
        }

        private Node chain() {
            Node left = signed();
            for (int i = 0; token == BARS && i < TAPE; i++) {
                int operatorPlace = place;
                advance();
                left = pair(BARS, operatorPlace, left, signed());
            }
            return left;
        }

        private Node signed() {
            if (token != '-') return single();
            Node n = node(NEGATE, place);
            advance();
            n.first = single();
            return raised(n);
        }

        private Node single() {
            switch (token) {
                case NUMBER: return number();
                case QUOTED: return quoted();
                case W_NULL: return nothing();
                case '?': case '$': return parameter();
                case NAME: return ref();
                case W_COUNT: case W_SUM: case W_MIN: case W_MAX: return aggregate();
                case W_LENGTH: case W_ABS: return call(1);
                case W_SUBSTR: return call(3);
                case W_COALESCE: return call(0);
                case W_CASE: return cases();
                case W_EXISTS: return exists();
                default: return bracketed();
            }
        }

        private Node number() {
            Node n = node(NUMBER, place);
            n.value.setNumber(value);
            advance();
            return n;
        }

        private Node quoted() {
            Node n = node(QUOTED, place);
            n.value.setQuoted(text, place + 1, (int) value);
            advance();
            return n;
        }

        private Node nothing() {
            Node n = node(W_NULL, place);
            advance();
            return n;
        }

        private Node parameter() {
            if (statement.parameters >= PARAMETERS) fail();
            Node n = node(token, place);
            n.column = statement.parameters;
            if (token == '$') statement.textParameters |= 1 << n.column;
            statement.parameters++;
            advance();
            return n;
        }

        private Node aggregate() {
            Node n = node(token, place);
            n.select = core;
            addAggregate(n);
            advance();
            openBracket();
            if (n.kind == W_COUNT && token == '*') {
                advance();
            } else {
                if (passes(W_DISTINCT)) n.flags = W_DISTINCT;
                n.first = expression();
                raised(n);
            }
            closeBracket();
            return n;
        }

        private void addAggregate(Node added) {
            if (core == null) return;
            Node tail = core.aggregates;
            added.column = 0;
            if (tail == null) {
                core.aggregates = added;
                return;
            }
            for (; tail.link != null; tail = tail.link) {}
            tail.link = added;
            added.column = tail.column + 1;
        }

        /** A call with so many expressions, or with any number of them for 0. */
        private Node call(int most) {
            Node n = node(token, place);
            advance();
            openBracket();
            n.first = expression();
            Node tail = n.first;
            for (int i = 1; (most == 0 ? token == ',' : i < most) && i < TAPE; i++) {
                expect(',');
                tail.next = expression();
                tail = tail.next;
            }
            closeBracket();
            return raised(n);
        }

        private Node cases() {
            if (open >= OPEN_BRACKETS) fail();
            Node n = node(W_CASE, place);
            open++;
            advance();
            if (token != W_WHEN) fail();
            Node tail = null;
            for (int i = 0; token == W_WHEN && i < TAPE; i++) {
                Node when = condition();
                if (tail == null) n.first = when;
                else tail.next = when;
                expect(W_THEN);
                when.next = expression();
                tail = when.next;
            }
            if (passes(W_ELSE) && tail != null) {
                n.flags = W_ELSE;
                tail.next = expression();
            }
            if (token != W_END) fail();
            open--;
            advance();
            return raised(n);
        }

        private Node exists() {
            Node n = node(W_EXISTS, place);
            advance();
            openBracket();
            n.select = query();
            closeBracket();
            return n;
        }

        private Node bracketed() {
            int bracket = place;
            openBracket();
            Node n;
            if (token == W_SELECT) {
                n = node(W_SELECT, bracket);
                n.select = query();
            } else {
                n = expression();
            }
            closeBracket();
            return n;
        }
    }

    /** Knows the definitions as they are seen now, and checks statements against them. */
    private static final class Checker {
        final Definition[] definitions = new Definition[DEFINITIONS];
        int definitionCount;
        /** The table that the statement would create. */
        final Definition made = new Definition();
        final byte[] texts = new byte[DEFINITIONS * TAPE];
        int errorPlace;
        private int textEnd;
        private int error;
        private final Tree tree;
        private final Parser parser;
        private final byte[] known = new byte[PAGES * PAGE];
        private int knownLength;
        private final byte[] fresh = new byte[PAGES * PAGE];
        private int freshLength;
        /** How many checks of sources were begun. */
        private int begun;
        private boolean creating;
        private boolean inRule;

        Checker(Tree ofPages, Parser ofStatements) {
            tree = ofPages;
            parser = ofStatements;
            for (int i = 0; i < DEFINITIONS; i++) definitions[i] = new Definition();
        }

        // ---- definitions

        /** Whether the definitions are those that were read last; otherwise they are to be read anew. */
        boolean isUpToDate() {
            freshLength = 0;
            tree.seekFirst(1);
            for (int i = 0; tree.cell >= 0 && i < PAGES * PAGE; i++) {
                freshLength += tree.copyCell(fresh, freshLength);
                tree.next();
            }
            if (isKnown()) return true;
            System.arraycopy(fresh, 0, known, 0, freshLength);
            knownLength = freshLength;
            splitCells();
            return false;
        }

        private boolean isKnown() {
            if (freshLength != knownLength) return false;
            for (int i = 0; i < freshLength; i++) {
                if (fresh[i] != known[i]) return false;
            }
            return true;
        }

        /** The byte of the cells at this place; 0 behind them. */
        private int cellByte(int place) {
            return place >= 0 && place < freshLength ? fresh[place] & 255 : 0;
        }

        private void splitCells() {
            definitionCount = 0;
            textEnd = 0;
            Definition d = null;
            int cell = 0;
            for (int i = 0; cell + 4 <= freshLength && i < freshLength; i++) {
                int payload = cell + 2 + cellByte(cell);
                int behind = payload + cellByte(cell + 1);
                if (cellByte(cell + 3) != 0) {
                    if (d != null) addPiece(d, payload, behind);
                } else if (definitionCount < DEFINITIONS) {
                    d = definitions[definitionCount++];
                    d.begin(cellByte(payload), cellByte(cell + 2));
                    d.textAt = textEnd;
                    for (int k = payload + 1; k < behind; k++) d.addRoot(cellByte(k));
                }
                cell = behind;
            }
        }

        private void addPiece(Definition d, int from, int to) {
            for (int i = from; i < to && textEnd < texts.length; i++) {
                texts[textEnd++] = (byte) cellByte(i);
                d.textLength++;
            }
        }

        /** Takes what the text of a definition was read as. */
        void interpret(Definition d, Statement s) {
            d.fill(s);
            if (d.kind != INDEX) return;
            d.rules = s.list;
            d.ownCount = s.mode;
        }

        /** Brings the definitions together, all of which have been interpreted. */
        void connect() {
            for (int i = 0; i < definitionCount; i++) attach(definitions[i]);
            for (int i = 0; i < definitionCount; i++) resolveRules(definitions[i]);
        }

        /** Tells a table of an index that was created on it. */
        private void attach(Definition d) {
            if (d.kind != INDEX) return;
            Definition table = tableCalled(d.target);
            if (table != null) table.addIndex(d.root(), d.ownCount == W_UNIQUE, d.rules, 0);
        }

        /** Binds the refs of checks to the row that the definition has for them. */
        private void resolveRules(Definition d) {
            if (d.kind != TABLE) return;
            creating = false;
            try {
                for (Node rule = d.rules; rule != null; rule = rule.next) {
                    if (rule.kind == W_CHECK) expression(rule.first, d.scope, 0);
                }
            } catch (IllegalStateException e) {
                d.rules = null;
            }
        }

        Definition called(long name) {
            for (int i = 0; i < definitionCount; i++) {
                if (definitions[i].name == name) return definitions[i];
            }
            return null;
        }

        Definition calledOfKind(long name, int kind) {
            Definition d = called(name);
            return d != null && d.kind == kind ? d : null;
        }

        Definition tableCalled(long name) {
            return calledOfKind(name, TABLE);
        }

        Definition definition(int i) {
            return i >= 0 && i < definitionCount && i < DEFINITIONS ? definitions[i] : null;
        }

        // ---- statements

        /** Returns error 3 to 6, or 0 for none. */
        int check(Statement s) {
            error = 0;
            errorPlace = 0;
            begun = 0;
            creating = s.isCreate();
            inRule = false;
            try {
                switch (s.kind) {
                    case W_TABLE: createTable(s); break;
                    case W_INDEX: createIndex(s); break;
                    case W_VIEW: createView(s); break;
                    case W_DROP: drop(s); break;
                    case W_INSERT: insert(s); break;
                    case W_UPDATE: update(s); break;
                    case W_DELETE: delete(s); break;
                    case W_SELECT: query(s.query, null, 1, 0); break;
                    default: break;
                }
            } catch (IllegalStateException e) {
                return error;
            }
            return 0;
        }

        private void fail(int newError, int place) {
            error = newError;
            errorPlace = place;
            throw new IllegalStateException();
        }

        private void newName(Statement s) {
            if (called(s.name) != null) fail(ERROR_NAME, s.namePlace);
            if (definitionCount >= DEFINITIONS) fail(ERROR_NUMBER, s.namePlace);
        }

        private Definition target(Statement s) {
            Definition d = tableCalled(s.target);
            if (d == null) fail(ERROR_NAME, s.targetPlace);
            return d;
        }

        private void createTable(Statement s) {
            newName(s);
            for (Node c = s.list; c != null; c = c.next) {
                if (isNameAhead(s.list, c)) fail(ERROR_NAME, c.place);
                Node literal = c.part(W_DEFAULT);
                if (literal != null && !fits(literal.type, c.type)) fail(ERROR_TYPE, literal.place);
            }
            made.begin(TABLE, 0);
            made.fill(s);
            for (Node rule = s.more; rule != null; rule = rule.next) rule(rule);
            for (Node c = s.list; c != null; c = c.next) {
                Node reference = c.part(W_REFERENCES);
                if (reference != null) reference(reference, c.type);
            }
        }

        private static boolean isNameAhead(Node list, Node of) {
            for (Node n = list; n != null && n != of; n = n.next) {
                if (n.name == of.name) return true;
            }
            return false;
        }

        private static boolean fits(int type, int other) {
            return type == NULL || other == NULL || type == other;
        }

        private void rule(Node rule) {
            if (rule.kind == W_CHECK) {
                inRule = true;
                if (expression(rule.first, made.scope, 0) == TEXT) fail(ERROR_TYPE, rule.place);
                inRule = false;
                return;
            }
            for (Node n = rule.first; n != null; n = n.next) {
                if (made.columnOf(n.name) < 0 || isNameAhead(rule.first, n)) fail(ERROR_NAME, n.place);
            }
        }

        private void reference(Node reference, int type) {
            Definition d = reference.name == made.name ? made : tableCalled(reference.name);
            if (d == null) {
                fail(ERROR_NAME, reference.place);
                return;
            }
            int column = d.columnOf(reference.second);
            if (column < 0) fail(ERROR_NAME, reference.secondPlace);
            if (d.indexAlone(column) < 0) fail(ERROR_PLACE, reference.secondPlace);
            if (d.typeOf(column) != type) fail(ERROR_TYPE, reference.secondPlace);
        }

        private void createIndex(Statement s) {
            newName(s);
            columnNames(target(s), s.list);
        }

        /** The names behind a table, each of which has to be another column of it. */
        private void columnNames(Definition d, Node names) {
            if (d == null) return;
            for (Node n = names; n != null; n = n.next) {
                n.column = d.columnOf(n.name);
                if (n.column < 0 || isNameAhead(names, n)) fail(ERROR_NAME, n.place);
            }
        }

        private void createView(Statement s) {
            newName(s);
            query(s.query, null, 1, 0);
            if (!s.query.isWellNamed()) fail(ERROR_NAME, s.namePlace);
        }

        private void drop(Statement s) {
            int kind = s.mode == W_TABLE ? TABLE : s.mode == W_INDEX ? INDEX : VIEW;
            if (calledOfKind(s.name, kind) == null) fail(ERROR_NAME, s.namePlace);
        }

        private void insert(Statement s) {
            Definition d = target(s);
            if (d == null) return;
            columnNames(d, s.list);
            int width = s.list == null ? d.columnCount : countOf(s.list);
            for (Node row = s.more; row != null; row = row.next) row(s, d, row, width);
            if (s.query == null) return;
            query(s.query, null, 1, 0);
            if (s.query.columns != width) fail(ERROR_NUMBER, s.query.place);
            for (int i = 0; i < width; i++) {
                if (!fits(s.query.typeOf(i), d.typeOf(columnOfPlace(s.list, i)))) fail(ERROR_TYPE, s.query.place);
            }
        }

        private static int countOf(Node list) {
            int count = 0;
            for (Node n = list; n != null; n = n.next) count++;
            return count;
        }

        /** The column that the name at this place of the list means; without a list the place itself. */
        static int columnOfPlace(Node names, int place) {
            if (names == null) return place;
            int i = 0;
            for (Node n = names; n != null; n = n.next) {
                if (i == place) return n.column;
                i++;
            }
            return -1;
        }

        private void row(Statement s, Definition d, Node row, int width) {
            if (countOf(row.first) != width) fail(ERROR_NUMBER, row.place);
            int i = 0;
            for (Node n = row.first; n != null; n = n.next) {
                int type = expression(n, null, 0);
                if (!fits(type, d.typeOf(columnOfPlace(s.list, i)))) fail(ERROR_TYPE, n.start);
                i++;
            }
        }

        private void update(Statement s) {
            Source source = targetSource(s);
            Definition d = source == null ? null : source.table;
            if (d == null) return;
            for (Node n = s.list; n != null; n = n.next) {
                n.column = d.columnOf(n.name);
                if (n.column < 0 || isNameAhead(s.list, n)) fail(ERROR_NAME, n.place);
                if (!fits(expression(n.first, s.scope, 0), d.typeOf(n.column))) fail(ERROR_TYPE, n.place);
            }
            condition(s.scope.where, s.scope, 0);
            source.choose();
            source.keepParts();
        }

        private void delete(Statement s) {
            Source source = targetSource(s);
            if (source == null) return;
            condition(s.scope.where, s.scope, 0);
            source.choose();
            source.keepParts();
        }

        private Source targetSource(Statement s) {
            Source source = s.scope == null ? null : s.scope.sources;
            if (source == null) return null;
            source.table = target(s);
            source.owner = s.scope;
            source.seen = true;
            return source;
        }

        // ---- queries

        private void query(Select q, Select outer, int level, int depth) {
            if (q == null) return;
            if (level > QUERY_LEVELS) fail(ERROR_NUMBER, q.place);
            for (Select c = q; c != null; c = c.next) {
                c.outer = outer;
                c.level = level;
                core(c, depth);
                if (c != q) match(q, c);
            }
            tail(q);
        }

        private void match(Select q, Select c) {
            if (c.columns != q.columns) fail(ERROR_NUMBER, c.place);
            for (int i = 0; i < q.width(); i++) {
                int met = meet(q.types[i], c.types[i]);
                if (met < 0) fail(ERROR_TYPE, c.place);
                q.types[i] = met;
            }
        }

        /** The type of things that fit each other; -1 if they do not. */
        private static int meet(int type, int other) {
            if (type < 0 || !fits(type, other)) return -1;
            return type == NULL ? other : type;
        }

        private void tail(Select q) {
            for (Node n = q.tail; n != null; n = n.next) {
                if (n.kind == NAME) {
                    if (q.countOf(n.name) != 1) fail(ERROR_NAME, n.place);
                    n.column = q.columnOf(n.name);
                } else if (n.kind == NUMBER) {
                    if (n.name < 1 || n.name > q.columns) fail(ERROR_NAME, n.place);
                    n.column = (int) n.name - 1;
                } else {
                    expression(n.first, null, 0);
                }
            }
        }

        private void core(Select c, int depth) {
            int position = 0;
            for (Source s = c.sources; s != null; s = s.next) {
                s.owner = c;
                s.position = position++;
                source(c, s, depth);
                condition(s.on, c, depth);
            }
            condition(c.where, c, depth);
            for (Node n = c.groups; n != null; n = n.next) groupRef(c, n);
            c.part = PART_ITEM;
            for (Node n = c.items; n != null; n = n.next) item(c, n, depth);
            condition(c.having, c, depth);
            c.part = PART_CONDITION;
            for (Source s = c.sources; s != null; s = s.next) {
                s.choose();
                s.keepParts();
            }
        }

        private void condition(Node n, Select scope, int depth) {
            if (n != null && expression(n, scope, depth) == TEXT) fail(ERROR_TYPE, n.start);
        }

        private void source(Select c, Source s, int depth) {
            if (begun >= SOURCE_CHECKS) fail(ERROR_NUMBER, s.place);
            begun++;
            if (s.select == null) named(s, c.level, depth);
            else {
                query(s.select, null, c.level + 1, depth + 1);
                if (!s.select.isWellNamed()) fail(ERROR_NAME, s.place);
            }
            for (Source t = c.sources; t != null && t != s; t = t.next) {
                if (t.called == s.called) fail(ERROR_NAME, s.calledPlace);
            }
            s.seen = true;
        }

        private void named(Source s, int level, int depth) {
            Definition d = called(s.name);
            if (d == null || d.kind == INDEX) {
                fail(ERROR_NAME, s.place);
                return;
            }
            if (d.kind == TABLE) {
                s.table = d;
                return;
            }
            s.select = parser.readView(texts, d.textAt, d.textLength);
            if (!isSoundView(s.select, level + 1, depth + 1)) fail(ERROR_NAME, s.place);
        }

        private boolean isSoundView(Select q, int level, int depth) {
            try {
                query(q, null, level, depth);
                return q != null && q.isWellNamed();
            } catch (IllegalStateException e) {
                return false;
            }
        }

        private void groupRef(Select c, Node n) {
            if (!bindsIn(c, n)) fail(ERROR_NAME, n.place);
        }

        private void item(Select c, Node item, int depth) {
            if (item.first == null) {
                if (c.sources == null || c.isGrouped()) fail(ERROR_PLACE, item.place);
                for (Source s = c.sources; s != null; s = s.next) {
                    for (int i = 0; i < s.width(); i++) c.addColumn(s.nameOf(i), s.typeOf(i));
                }
            } else {
                int type = expression(item.first, c, depth);
                c.addColumn(nameOfItem(item), type);
            }
            if (c.columns > ITEMS) fail(ERROR_NUMBER, item.place);
        }

        private static long nameOfItem(Node item) {
            Node n = item.first;
            if (item.name != 0 || n == null || n.kind != NAME) return item.name;
            return n.second != 0 ? n.second : n.name;
        }

        // ---- expressions

        /** Checks an expression where it sees the scope; returns its type. */
        private int expression(Node n, Select scope, int depth) {
            if (n == null || depth > DEEPEST) {
                fail(ERROR_NUMBER, 0);
                return NULL;
            }
            switch (n.kind) {
                case NUMBER: n.type = INT; break;
                case QUOTED: n.type = TEXT; break;
                case W_NULL: n.type = NULL; break;
                case '?': case '$':
                    if (creating) fail(ERROR_PLACE, n.place);
                    n.type = n.kind == '?' ? INT : TEXT;
                    break;
                case NAME: n.type = ref(n, scope); break;
                case W_COUNT: case W_SUM: case W_MIN: case W_MAX: n.type = aggregate(n, scope, depth); break;
                case W_SELECT: case W_EXISTS: n.type = inner(n, scope, depth); break;
                case W_CASE: n.type = cases(n, scope, depth); break;
                case W_SUBSTR: n.type = substr(n, scope, depth); break;
                default:
                    n.type = n.select != null ? inQuery(n, scope, depth) : operation(n, scope, depth);
            }
            return n.type;
        }

        private int ref(Node n, Select scope) {
            int places = 0;
            for (Select p = scope; p != null && places <= QUERY_LEVELS + 1; p = p.outer) {
                if (bindsIn(p, n)) {
                    needGrouped(p, n);
                    return n.type;
                }
                places++;
            }
            fail(ERROR_NAME, n.place);
            return NULL;
        }

        /** Whether it means a column of a source of this place; then it is bound to it. */
        private boolean bindsIn(Select p, Node n) {
            Source found = null;
            for (Source s = p.sources; s != null; s = s.next) {
                if (!s.seen || !(n.second != 0 ? s.called == n.name : s.columnOf(n.name) >= 0)) continue;
                if (found != null) fail(ERROR_NAME, n.place);
                found = s;
            }
            if (found == null) return false;
            n.column = found.columnOf(n.second != 0 ? n.second : n.name);
            if (n.column < 0) fail(ERROR_NAME, n.secondPlace);
            n.source = found;
            n.type = found.typeOf(n.column);
            return true;
        }

        private void needGrouped(Select p, Node n) {
            if (p.part != PART_ITEM || !p.isGrouped()) return;
            int i = 0;
            for (Node g = p.groups; g != null; g = g.next) {
                if (g.source == n.source && g.column == n.column) {
                    n.group = i;
                    return;
                }
                i++;
            }
            fail(ERROR_PLACE, n.place);
        }

        private int aggregate(Node n, Select scope, int depth) {
            Select owner = n.select;
            if (owner == null || owner.part != PART_ITEM) {
                fail(ERROR_PLACE, n.place);
                return NULL;
            }
            if (n.first == null) return INT;
            owner.part = PART_AGGREGATE;
            int type = expression(n.first, scope, depth + 1);
            owner.part = PART_ITEM;
            if (n.kind == W_SUM && type == TEXT) fail(ERROR_TYPE, n.place);
            return n.kind == W_COUNT || n.kind == W_SUM ? INT : type;
        }

        private int inner(Node n, Select scope, int depth) {
            Select q = n.select;
            if (q == null) return NULL;
            if (inRule) fail(ERROR_PLACE, q.place);
            query(q, scope, scope == null ? 1 : scope.level + 1, depth + 1);
            if (n.kind == W_EXISTS) return INT;
            if (q.columns != 1) fail(ERROR_NUMBER, q.place);
            return q.typeOf(0);
        }

        private int inQuery(Node n, Select scope, int depth) {
            int type = expression(n.first, scope, depth + 1);
            if (!fits(type, inner(n, scope, depth))) fail(ERROR_TYPE, n.place);
            return INT;
        }

        private int cases(Node n, Select scope, int depth) {
            int met = NULL;
            Node m = n.first;
            for (int i = 0; m != null && i < TAPE; i++) {
                Node result = m;
                if (m.next != null) {
                    if (expression(m, scope, depth + 1) == TEXT) fail(ERROR_TYPE, m.start);
                    result = m.next;
                }
                met = meet(met, expression(result, scope, depth + 1));
                m = result.next;
            }
            if (met < 0) fail(ERROR_TYPE, n.place);
            return met;
        }

        private int substr(Node n, Select scope, int depth) {
            boolean right = true;
            for (Node m = n.first; m != null; m = m.next) {
                int type = expression(m, scope, depth + 1);
                if (!fits(type, m == n.first ? TEXT : INT)) right = false;
            }
            if (!right) fail(ERROR_TYPE, n.place);
            return TEXT;
        }

        private int operation(Node n, Select scope, int depth) {
            int met = NULL;
            boolean ints = true;
            boolean texts = true;
            for (Node m = n.first; m != null; m = m.next) {
                int type = expression(m, scope, depth + 1);
                if (type == TEXT) ints = false;
                if (type == INT) texts = false;
                met = meet(met, type);
            }
            switch (n.kind) {
                case W_IS: return INT;
                case BARS: return need(texts, n, TEXT);
                case W_LIKE: case W_LENGTH: return need(texts, n, INT);
                case W_COALESCE: return need(met >= 0, n, met);
                case '=': case '<': case '>': case LESS_EQUAL: case GREATER_EQUAL: case NOT_EQUAL:
                case W_BETWEEN: case W_IN:
                    return need(met >= 0, n, INT);
                default: return need(ints, n, INT);
            }
        }

        private int need(boolean fitting, Node n, int type) {
            if (!fitting) fail(ERROR_TYPE, n.place);
            return type;
        }
    }

    /** Trees in the pages of an image, and the cell of a leaf where a walk through one of them stands. */
    private static final class Tree {
        /** Has room for 64 pages, so that each place that is cut to IN_IMAGE lies in it. */
        private byte[] image = new byte[IMAGE];
        /** Where in the image the cell stands; -1 behind the last one. */
        int cell = -1;
        final int[] found = new int[PAGES];
        /** The pages on the way down, and which child, or cell of the leaf, was taken in each. */
        private final int[] path = new int[PAGES];
        private final int[] slots = new int[PAGES];
        private int depth;
        /** Where a cell with the key that was looked for would stand in its leaf. */
        private int spot;
        private final byte[] joined = new byte[2 * PAGE];
        private final byte[] fresh = new byte[PAGE];
        private int freshLength;
        private final int[] pending = new int[2 * PAGES];

        void show(byte[] pages) {
            if (pages != null && pages.length == IMAGE) image = pages;
        }

        byte[] shown() {
            return image;
        }

        int at(int place) {
            return image[place & IN_IMAGE] & 255;
        }

        private void set(int place, int b) {
            image[place & IN_IMAGE] = (byte) b;
        }

        /** How many cells a page has. */
        private int count(int page) {
            return image[page * PAGE + 1 & IN_IMAGE] & 255;
        }

        boolean isInner(int page) {
            return image[page * PAGE & IN_IMAGE] == INNER;
        }

        private int firstChild(int page) {
            return image[page * PAGE + 2 & IN_IMAGE] & 255;
        }

        /** Where the cell of this number stands in a page; with the number of all, where the next one would. */
        private int placeOf(int page, int number) {
            boolean inner = image[page * PAGE & IN_IMAGE] == INNER;
            int place = page * PAGE + HEADER;
            for (int i = 0; i < number && i < PAGE; i++) {
                place += 2 + (image[place & IN_IMAGE] & 255) + (inner ? 0 : image[place + 1 & IN_IMAGE] & 255);
            }
            return place;
        }

        int loadOf(int page) {
            return placeOf(page, count(page)) - page * PAGE - HEADER;
        }

        private int childOf(int page, int slot) {
            return slot < 0 ? firstChild(page) : at(placeOf(page, slot) + 1);
        }

        // ---- pages

        int pageCount() {
            return at(1);
        }

        int freeCount() {
            int n = 0;
            int page = at(2);
            for (; page != 0 && n < PAGES; n++) page = firstChild(page);
            return n;
        }

        private int takePage() {
            int page = at(2);
            if (page != 0) {
                set(2, firstChild(page));
                return page;
            }
            page = at(1);
            if (page >= PAGES) throw new UnsupportedOperationException();
            set(1, page + 1);
            return page;
        }

        int takeLeaf() {
            int page = takePage();
            writePage(page, LEAF, 0, 0, 0, 0);
            return page;
        }

        private void freePage(int page) {
            writePage(page, 0, at(2), 0, 0, 0);
            set(2, page);
        }

        /** Writes a page with the joined cells from one place to another. */
        private void writePage(int page, int kind, int firstChild, int from, int to, int cells) {
            int start = page * PAGE;
            for (int i = 0; i < PAGE; i++) image[start + i & IN_IMAGE] = 0;
            image[start & IN_IMAGE] = (byte) kind;
            image[start + 1 & IN_IMAGE] = (byte) cells;
            image[start + 2 & IN_IMAGE] = (byte) firstChild;
            for (int i = from; i < to && i >= 0 && i < joined.length; i++) {
                image[start + HEADER + i - from & IN_IMAGE] = joined[i];
            }
        }

        // ---- looking

        /** Compares the key of a cell with another one. */
        int compare(int place, byte[] key, int length) {
            int own = image[place & IN_IMAGE] & 255;
            for (int i = 0; i < own && i < length && i < key.length; i++) {
                int difference = (image[place + 2 + i & IN_IMAGE] & 255) - (key[i] & 255);
                if (difference != 0) return difference;
            }
            return own - length;
        }

        boolean startsWith(int place, byte[] key, int length) {
            if (length > key.length || (image[place & IN_IMAGE] & 255) < length) return false;
            for (int i = 0; i < length; i++) {
                if (image[place + 2 + i & IN_IMAGE] != key[i]) return false;
            }
            return true;
        }

        private void descend(int root, byte[] key, int length) {
            int page = root;
            cell = -1;
            for (int level = 0; level < PAGES; level++) {
                path[level] = page;
                depth = level;
                boolean inner = isInner(page);
                int cells = count(page);
                int child = firstChild(page);
                int place = page * PAGE + HEADER;
                int i = 0;
                for (; i < cells && compare(place, key, length) < (inner ? 1 : 0); i++) {
                    child = at(place + 1);
                    place += 2 + at(place) + (inner ? 0 : child);
                }
                slots[level] = inner ? i - 1 : i;
                if (!inner) {
                    spot = place;
                    if (i < cells) cell = place;
                    return;
                }
                page = child;
            }
        }

        /** Goes to the first cell whose key is not less than this one. */
        void seek(int root, byte[] key, int length) {
            descend(root, key, length);
            if (cell < 0) nextLeaf();
        }

        void seekFirst(int root) {
            descend(root, NO_BYTES, 0);
            if (cell < 0) nextLeaf();
        }

        /** Where the cell with this key stands; -1 if there is none. */
        int find(int root, byte[] key, int length) {
            descend(root, key, length);
            return cell >= 0 && compare(cell, key, length) == 0 ? cell : -1;
        }

        /** The number of a row, which the key of a cell ends with. */
        int numberAtEnd(int place) {
            int end = place + 2 + at(place);
            return at(end - 2) * 256 + at(end - 1);
        }

        void next() {
            if (cell < 0 || depth < 0 || depth >= PAGES) return;
            slots[depth]++;
            cell += 2 + at(cell) + at(cell + 1);
            if (slots[depth] >= count(path[depth])) nextLeaf();
        }

        /** Goes to the first cell of the leaves behind this one. */
        private void nextLeaf() {
            cell = -1;
            for (int i = 0; cell < 0 && i < PAGES; i++) {
                int level = depth - 1;
                for (; level >= 0 && level < PAGES && slots[level] + 1 >= count(path[level]); level--) {}
                if (level < 0 || level >= PAGES - 1) return;
                slots[level]++;
                int page = image[placeOf(path[level], slots[level]) + 1 & IN_IMAGE] & 255;
                for (level++; level < PAGES; level++) {
                    path[level] = page;
                    slots[level] = -1;
                    depth = level;
                    if (!isInner(page)) break;
                    page = firstChild(page);
                }
                if (depth < 0 || depth >= PAGES) return;
                slots[depth] = 0;
                if (count(page) > 0) cell = page * PAGE + HEADER;
            }
        }

        /** Where the cell with the greatest key stands; -1 if there is none. */
        int last(int root) {
            int greatest = -1;
            int waiting = 1;
            pending[0] = root;
            for (int i = 0; waiting > 0 && greatest < 0 && i < PAGES; i++) {
                int page = pending[--waiting];
                int cells = count(page);
                if (isInner(page)) {
                    for (int k = -1; k < cells && waiting < pending.length; k++) pending[waiting++] = childOf(page, k);
                } else if (cells > 0) {
                    greatest = placeOf(page, cells - 1);
                }
            }
            return greatest;
        }

        /** Copies the cell of the walk to a place of a row of bytes; returns how many it has. */
        int copyCell(byte[] to, int from) {
            int bytes = 2 + at(cell) + at(cell + 1);
            if (cell < 0 || from < 0 || from + bytes > to.length) return 0;
            for (int i = 0; i < bytes; i++) to[from + i] = (byte) at(cell + i);
            return bytes;
        }

        /** Lists all pages of a tree: its root, then likewise what is under each child; returns how many. */
        int collect(int root) {
            int n = 0;
            pending[0] = root;
            int waiting = 1;
            for (; waiting > 0 && n < PAGES; n++) {
                int page = pending[--waiting];
                found[n] = page;
                if (!isInner(page)) continue;
                for (int i = count(page) - 1; i >= -1 && waiting < pending.length; i--) {
                    pending[waiting++] = childOf(page, i);
                }
            }
            return n;
        }

        int levels(int root) {
            int page = root;
            int n = 1;
            for (; isInner(page) && n < PAGES; n++) page = firstChild(page);
            return n;
        }

        int leafCells(int root) {
            int pages = collect(root);
            int cells = 0;
            for (int i = 0; i < pages && i < PAGES; i++) {
                if (!isInner(found[i])) cells += count(found[i]);
            }
            return cells;
        }

        void freeTree(int root) {
            int n = collect(root);
            for (int i = 0; i < n && i < PAGES; i++) freePage(found[i]);
        }

        // ---- putting in

        void put(int root, byte[] key, int keyLength, byte[] payload, int payloadLength) {
            descend(root, key, keyLength);
            freshLength = 0;
            addFresh(keyLength);
            addFresh(payloadLength);
            for (int i = 0; i < keyLength && i < key.length; i++) addFresh(key[i]);
            for (int i = 0; i < payloadLength && i < payload.length; i++) addFresh(payload[i]);
            int place = spot;
            for (int level = depth; level >= 0 && level < PAGES; level--) {
                int page = path[level];
                int total = join(page, place);
                if (total <= LOAD) {
                    writePage(page, at(page * PAGE), firstChild(page), 0, total, count(page) + 1);
                    return;
                }
                split(page, total, level == 0);
                if (level > 0) place = placeOf(path[level - 1], slots[level - 1] + 1);
            }
        }

        private void addFresh(int b) {
            if (freshLength >= 0 && freshLength < fresh.length) fresh[freshLength++] = (byte) b;
        }

        /** Joins the cells of a page with the fresh one at this place; returns how many bytes they have. */
        private int join(int page, int place) {
            int end = placeOf(page, count(page));
            int total = 0;
            for (int i = page * PAGE + HEADER; i < place && total < joined.length; i++) joined[total++] = (byte) at(i);
            for (int i = 0; i < freshLength && i < PAGE && total < joined.length; i++) joined[total++] = fresh[i];
            for (int i = place; i < end && total < joined.length; i++) joined[total++] = (byte) at(i);
            return total;
        }

        private int joinedByte(int i) {
            return i >= 0 && i < joined.length ? joined[i] & 255 : 0;
        }

        /** Splits a page by the joined cells; the fresh cell becomes that of the parent. */
        private void split(int page, int total, boolean isRoot) {
            boolean inner = isInner(page);
            int kind = inner ? INNER : LEAF;
            int firstChild = firstChild(page);
            int cells = count(page) + 1;
            int cut = 0;
            int up = 0;
            int counted = 0;
            for (; counted < cells && 2 * cut < total; counted++) {
                up = cut;
                cut += 2 + joinedByte(cut) + (inner ? 0 : joinedByte(cut + 1));
            }
            int left = isRoot ? takePage() : page;
            int right = takePage();
            int between = inner ? up : cut;
            writePage(left, kind, firstChild, 0, between, inner ? counted - 1 : counted);
            writePage(right, kind, inner ? joinedByte(up + 1) : 0, cut, total, cells - counted);
            int keyLength = joinedByte(between);
            freshLength = 0;
            addFresh(keyLength);
            addFresh(right);
            for (int i = 0; i < keyLength; i++) addFresh(joinedByte(between + 2 + i));
            if (!isRoot) return;
            for (int i = 0; i < freshLength && i < PAGE; i++) joined[i] = fresh[i];
            writePage(page, INNER, left, 0, freshLength, 1);
        }

        // ---- taking out

        void takeOut(int root, byte[] key, int length) {
            descend(root, key, length);
            if (cell < 0 || depth < 0 || depth >= PAGES || compare(cell, key, length) != 0) return;
            cut(path[depth], cell);
            for (int level = depth; level > 0; level--) {
                if (!joinsNeighbour(level)) return;
            }
            for (int i = 0; isInner(root) && count(root) == 0 && i < PAGES; i++) takeOverChild(root);
        }

        private void takeOverChild(int root) {
            int child = firstChild(root);
            for (int i = 0; i < PAGE; i++) set(root * PAGE + i, at(child * PAGE + i));
            freePage(child);
        }

        private void cut(int page, int place) {
            int end = placeOf(page, count(page));
            int bytes = 2 + at(place) + (isInner(page) ? 0 : at(place + 1));
            for (int i = place; i < end; i++) set(i, i + bytes < end ? at(i + bytes) : 0);
            set(page * PAGE + 1, count(page) - 1);
        }

        /** Joins the page at this level of the way with its neighbour, if the two are small enough. */
        private boolean joinsNeighbour(int level) {
            if (level < 1 || level >= PAGES) return false;
            int page = path[level];
            int parent = path[level - 1];
            int slot = slots[level - 1];
            boolean hasNext = slot + 1 < count(parent);
            if (!hasNext && slot < 0) return false;
            int rightCell = placeOf(parent, hasNext ? slot + 1 : slot);
            int right = at(rightCell + 1);
            int left = hasNext ? page : slot == 0 ? firstChild(parent) : at(placeOf(parent, slot - 1) + 1);
            int leftEnd = placeOf(left, count(left));
            int rightEnd = placeOf(right, count(right));
            int loads = leftEnd - left * PAGE + rightEnd - right * PAGE - 2 * HEADER;
            boolean inner = isInner(page);
            if (inner && loads + 2 + at(rightCell) > JOINED_LOAD) return false;
            if (!inner && loads > JOINED_LOAD && count(left) > 0 && count(right) > 0) return false;
            int cells = count(left) + count(right);
            if (inner) {
                // The key between the two goes down, with the first child of the right one.
                set(leftEnd, at(rightCell));
                set(leftEnd + 1, firstChild(right));
                for (int i = 0; i < at(rightCell); i++) set(leftEnd + 2 + i, at(rightCell + 2 + i));
                leftEnd += 2 + at(rightCell);
                cells++;
            }
            for (int i = right * PAGE + HEADER; i < rightEnd; i++) set(leftEnd + i - right * PAGE - HEADER, at(i));
            set(left * PAGE + 1, cells);
            cut(parent, rightCell);
            freePage(right);
            return true;
        }
    }

    /** The file, the log, and the transactions of the clients. */
    private static final class Log {
        final byte[] file = new byte[PAGES * PAGE];
        final byte[] bytes = new byte[FRAMES * FRAME];
        /** The bytes as they were appended, while the database is closed. */
        private final byte[] appended = new byte[FRAMES * FRAME];
        int length;
        int safe;
        int used;
        boolean isOpened = true;
        int writing = -1;
        final int[] marks = new int[CLIENTS];
        final boolean[] begun = new boolean[CLIENTS];
        final int[] kept = new int[CLIENTS];
        private final long[] keptNames = new long[CLIENTS * SAVEPOINTS];
        /** Whether a savepoint was made by the writer, so that its pages are kept. */
        private final boolean[] keptPages = new boolean[CLIENTS * SAVEPOINTS];
        private final byte[] keptBytes = new byte[SAVEPOINTS * PAGES * PAGE];
        /** The pages as the writer has changed them. */
        private final byte[] own = new byte[IMAGE];
        /** The pages as the last mark that was looked by tells them. */
        private final byte[] seen = new byte[IMAGE];
        private int seenMark = -1;
        private final byte[] before = new byte[PAGES * PAGE];

        Log() {
            file[0] = 7;
            file[1] = 2;
            file[PAGE] = LEAF;
            Arrays.fill(marks, -1);
        }

        private static boolean isClient(int client) {
            return client >= 0 && client < CLIENTS;
        }

        int frames() {
            return length / FRAME;
        }

        // ---- looking

        /** The pages as this client sees them. */
        byte[] view(int client) {
            if (client == writing) return own;
            show(isClient(client) && marks[client] >= 0 ? marks[client] : frames());
            return seen;
        }

        private void show(int mark) {
            if (seenMark < 0 || seenMark > mark) {
                System.arraycopy(file, 0, seen, 0, PAGES * PAGE);
                seenMark = 0;
            }
            for (int i = seenMark; i < mark && i < FRAMES; i++) copyFrame(i, seen);
            seenMark = mark;
        }

        private int pageOfFrame(int frame) {
            return frame >= 0 && frame < FRAMES ? bytes[frame * FRAME] & 255 : 0;
        }

        private void copyFrame(int frame, byte[] to) {
            int page = pageOfFrame(frame);
            if (frame < 0 || frame >= FRAMES || page >= PAGES) return;
            System.arraycopy(bytes, frame * FRAME + 2, to, page * PAGE, PAGE);
        }

        int dueFrames(int client) {
            return Long.bitCount(changedPages(client));
        }

        /** The pages that are not as the mark of a client tells, a bit each. */
        private long changedPages(int client) {
            long changed = 0;
            if (!isClient(client) || marks[client] < 0 || client != writing) return changed;
            show(marks[client]);
            // Behind the pages that there are for the writer nothing is changed.
            for (int page = 0; page < PAGES && page < (own[1] & 255); page++) {
                if (differs(page)) changed |= 1L << page;
            }
            return changed;
        }

        private boolean differs(int page) {
            for (int i = page * PAGE; i < (page + 1) * PAGE && i < IMAGE; i++) {
                if (own[i] != seen[i]) return true;
            }
            return false;
        }

        // ---- transactions

        boolean isBusy(int client) {
            if (writing >= 0 && writing != client) return true;
            return isClient(client) && marks[client] >= 0 && marks[client] != frames();
        }

        /** Begins a statement, which may write. */
        void enter(int client, boolean writes) {
            if (!isClient(client)) return;
            if (marks[client] < 0) marks[client] = frames();
            if (!writes) return;
            if (writing != client) {
                show(marks[client]);
                System.arraycopy(seen, 0, own, 0, PAGES * PAGE);
                writing = client;
            }
            if (begun[client]) System.arraycopy(own, 0, before, 0, PAGES * PAGE);
        }

        /** Ends a statement with its code; returns the code that it has then. */
        int leave(int client, boolean writes, int code) {
            if (!isClient(client)) return code;
            if (begun[client]) {
                if (writes && code != 0) System.arraycopy(before, 0, own, 0, PAGES * PAGE);
                return code;
            }
            int last = code == 0 && !appends(client) ? CODE_NO_ROOM : code;
            end(client);
            return last;
        }

        private void end(int client) {
            marks[client] = -1;
            begun[client] = false;
            kept[client] = 0;
            if (writing == client) writing = -1;
        }

        /** Appends what a client has changed, if there is room. */
        private boolean appends(int client) {
            long changed = changedPages(client);
            if (frames() + Long.bitCount(changed) > FRAMES) return false;
            for (int page = 0; page < PAGES; page++) {
                boolean isLast = changed >>> page == 1;
                if ((changed >>> page & 1) != 0) append(page, isLast);
            }
            return true;
        }

        private void append(int page, boolean isLast) {
            int at = length;
            if (at + FRAME > bytes.length) return;
            int check = at < FRAME ? 17 : checkAhead(at);
            bytes[at] = (byte) page;
            bytes[at + 1] = (byte) (isLast ? 1 : 0);
            System.arraycopy(own, page * PAGE, bytes, at + 2, PAGE);
            for (int i = 0; i < FRAME_CHECKED; i++) check = check * 31 + (bytes[at + i] & 255) + 1;
            for (int i = 0; i < 4; i++) bytes[at + FRAME_CHECKED + i] = (byte) (check >> 24 - 8 * i);
            length += FRAME;
        }

        /** The check of the frame that ends at this place. */
        private int checkAhead(int at) {
            int check = 0;
            for (int i = Math.max(0, at - 4); i < at; i++) check = check << 8 | bytes[i] & 255;
            return check;
        }

        /** Does begin, commit, rollback, savepoint or release; returns the code. */
        int transact(Statement s, int client) {
            if (!isClient(client)) return CODE_TRANSACTION;
            if (s.kind == W_BEGIN) {
                if (begun[client]) return CODE_TRANSACTION;
                begun[client] = true;
                return 0;
            }
            if (!begun[client]) return CODE_TRANSACTION;
            switch (s.kind) {
                case W_COMMIT:
                    if (!appends(client)) return CODE_NO_ROOM;
                    end(client);
                    return 0;
                case W_ROLLBACK:
                    if (s.mode == W_TO) return rollbackTo(client, s.name);
                    end(client);
                    return 0;
                case W_SAVEPOINT:
                    return keep(client, s.name);
                default:
                    int i = lastKept(client, s.name);
                    if (i >= 0) kept[client] = i;
                    return i < 0 ? CODE_TRANSACTION : 0;
            }
        }

        private int keep(int client, long name) {
            int i = kept[client];
            if (i >= SAVEPOINTS) return CODE_TRANSACTION;
            keptNames[client * SAVEPOINTS + i] = name;
            keptPages[client * SAVEPOINTS + i] = writing == client;
            if (writing == client) System.arraycopy(own, 0, keptBytes, i * PAGES * PAGE, PAGES * PAGE);
            kept[client] = i + 1;
            return 0;
        }

        private int lastKept(int client, long name) {
            for (int i = kept[client] - 1; i >= 0; i--) {
                if (i < SAVEPOINTS && keptNames[client * SAVEPOINTS + i] == name) return i;
            }
            return -1;
        }

        private int rollbackTo(int client, long name) {
            int i = lastKept(client, name);
            if (i < 0) return CODE_TRANSACTION;
            kept[client] = i + 1;
            if (writing != client) return 0;
            if (keptPages[client * SAVEPOINTS + i]) {
                System.arraycopy(keptBytes, i * PAGES * PAGE, own, 0, PAGES * PAGE);
            } else {
                show(marks[client]);
                System.arraycopy(seen, 0, own, 0, PAGES * PAGE);
            }
            return 0;
        }

        // ---- the file

        private int leastMark() {
            int least = -1;
            for (int client = 0; client < CLIENTS; client++) {
                if (marks[client] >= 0 && (least < 0 || marks[client] < least)) least = marks[client];
            }
            return least < 0 ? frames() : least;
        }

        private boolean hasMark() {
            for (int client = 0; client < CLIENTS; client++) {
                if (marks[client] >= 0) return true;
            }
            return false;
        }

        /** The last frame of a page among so many first ones; -1 if there is none. */
        private int lastFrame(int page, int mark) {
            for (int i = Math.min(mark, FRAMES) - 1; i >= 0; i--) {
                if (pageOfFrame(i) == page) return i;
            }
            return -1;
        }

        /** How many pages a checkpoint would copy. */
        int copies() {
            int mark = leastMark();
            int n = 0;
            for (int page = 0; page < PAGES; page++) {
                if (lastFrame(page, mark) >= 0) n++;
            }
            return n;
        }

        /** Copies the first pages of a checkpoint; returns how many it copied. */
        private int copyPages(int most) {
            int mark = leastMark();
            int n = 0;
            for (int page = 0; page < PAGES && n < most; page++) {
                int frame = lastFrame(page, mark);
                if (frame < 0) continue;
                copyFrame(frame, file);
                n++;
            }
            used = mark;
            safe = length;
            return n;
        }

        int makeCheckpoint() {
            int n = copyPages(PAGES);
            if (hasMark()) return n;
            length = 0;
            safe = 0;
            used = 0;
            seenMark = -1;
            return n;
        }

        int makeSafe() {
            int unsafe = length - safe;
            safe = length;
            return unsafe;
        }

        int breakDown(int lost, int copied) {
            if (copied > 0) copyPages(copied);
            length -= lost;
            safe = length;
            for (int client = 0; client < CLIENTS; client++) end(client);
            System.arraycopy(bytes, 0, appended, 0, length);
            isOpened = false;
            seenMark = -1;
            return length;
        }

        int change(int place, int mask) {
            if (place < 0 || place >= bytes.length) return 0;
            bytes[place] = (byte) (bytes[place] ^ mask);
            return bytes[place] & 255;
        }

        /** Opens the database; returns how many bytes were cut off. */
        int reopen() {
            int stay = 0;
            for (int i = 0; i < frames() && isGood(i); i++) {
                if (bytes[i * FRAME + 1] == 1) stay = i + 1;
            }
            int cut = length - stay * FRAME;
            length = stay * FRAME;
            safe = length;
            isOpened = true;
            seenMark = -1;
            return cut;
        }

        private boolean isGood(int frame) {
            for (int i = frame * FRAME; i < (frame + 1) * FRAME && i < length; i++) {
                if (bytes[i] != appended[i]) return false;
            }
            return true;
        }
    }

    /** Evaluates expressions and runs queries; what it stops with is its code. */
    private static final class Runner {
        int stepCount;
        int stopCode;
        private final Tree tree;
        private final Value[] bound;
        /** Where the parameters of the statement stand. */
        private int firstBound;
        /** Values of rows, groups and aggregates; those above the top are free. */
        private final ArrayList<Value> cells = new ArrayList<Value>();
        int top;
        /** Where the cells of the rows stand that are taken up by the open sources. */
        private final int[] openRows = new int[OPEN_ROWS];
        private int openTop;
        private final Value none = new Value();
        final byte[] record = new byte[KEY_BYTES];
        private final byte[] low = new byte[KEY_BYTES];
        private int lowLength;
        private final byte[] high = new byte[KEY_BYTES];
        private int highLength;

        Runner(Tree ofPages, Value[] parameters) {
            tree = ofPages;
            bound = parameters;
        }

        void begin(int parametersAt) {
            stepCount = 0;
            stopCode = 0;
            firstBound = parametersAt;
            top = 0;
            openTop = 0;
        }

        void stop(int code) {
            stopCode = code;
            if (code == CODE_TOO_MUCH) stepCount = STEPS;
            throw new IllegalStateException();
        }

        private void step() {
            if (stepCount >= STEPS) stop(CODE_TOO_MUCH);
            stepCount++;
        }

        // ---- cells

        Value cell(int i) {
            return i >= 0 && i < cells.size() ? cells.get(i) : none;
        }

        /** Takes so many cells, which are null then; returns the first one. */
        int take(int count) {
            int from = top;
            for (int i = 0; i < count; i++) {
                if (top >= cells.size()) cells.add(new Value());
                cell(top).clear();
                top++;
            }
            return from;
        }

        private void push(Value v) {
            if (top >= cells.size()) cells.add(new Value());
            cell(top).set(v);
            top++;
        }

        // ---- expressions

        /** Evaluates an expression that stands in no other one. */
        Value value(Node n) {
            return eval(n, 0);
        }

        private Value eval(Node n, int depth) {
            if (n == null) return none;
            if (depth > DEEPEST) stop(CODE_TOO_MUCH);
            switch (n.kind) {
                case NUMBER: case QUOTED: case W_NULL: return n.value;
                case '?': case '$': return parameter(n);
                case NAME: return ref(n);
                case W_COUNT: case W_SUM: case W_MIN: case W_MAX: return aggregate(n);
                case W_AND: case W_OR: return junction(n, depth);
                case W_BETWEEN: return between(n, depth);
                case W_IN: return n.select != null ? inQuery(n, depth) : inList(n, depth);
                case W_CASE: return cases(n, depth);
                case W_COALESCE: return coalesce(n, depth);
                case W_SUBSTR: return substr(n, depth);
                case W_SELECT: case W_EXISTS: return inner(n, depth);
                case W_NOT: case W_IS: case NEGATE: case W_LENGTH: case W_ABS: return single(n, depth);
                default: return pair(n, depth);
            }
        }

        private static Value put(Node n, boolean truth) {
            n.value.setNumber(truth ? 1 : 0);
            return n.value;
        }

        private static Value putNull(Node n) {
            n.value.clear();
            return n.value;
        }

        /** Puts 1, 0 or null, or, with not ahead, what not makes of it. */
        private static Value putDenied(Node n, boolean known, boolean truth) {
            if (known) n.value.setNumber(truth != (n.flags == W_NOT) ? 1 : 0);
            else n.value.clear();
            return n.value;
        }

        private Value parameter(Node n) {
            int i = firstBound + n.column;
            return n.column >= 0 && n.column < PARAMETERS && i >= 0 && i < bound.length ? bound[i] : none;
        }

        private Value ref(Node n) {
            Source s = n.source;
            if (s == null) return none;
            if (n.group >= 0 && s.owner != null) return cell(s.owner.group + n.group);
            return n.column >= 0 && n.column < s.row.length ? s.row[n.column] : none;
        }

        private Value aggregate(Node n) {
            if (n.select == null) return none;
            return cell(n.select.group + groupWidth(n.select) + n.column);
        }

        private Value junction(Node n, int depth) {
            Node left = n.first;
            if (left == null) return none;
            boolean decisive = n.kind == W_OR;
            Value a = eval(left, depth + 1);
            if (decisive ? a.isTrue() : a.isFalse()) return put(n, decisive);
            boolean leftKnown = a.kind != NULL;
            Value b = eval(left.next, depth + 1);
            if (decisive ? b.isTrue() : b.isFalse()) return put(n, decisive);
            return leftKnown && b.kind != NULL ? put(n, !decisive) : putNull(n);
        }

        private Value between(Node n, int depth) {
            Node x = n.first;
            Node a = x == null ? null : x.next;
            if (a == null) return none;
            Value value = eval(x, depth + 1);
            Value from = eval(a, depth + 1);
            Value to = eval(a.next, depth + 1);
            boolean fromKnown = value.kind != NULL && from.kind != NULL;
            boolean toKnown = value.kind != NULL && to.kind != NULL;
            boolean under = fromKnown && value.order(from) < 0;
            boolean over = toKnown && value.order(to) > 0;
            if (under || over) return putDenied(n, true, false);
            return putDenied(n, fromKnown && toKnown, true);
        }

        private Value inList(Node n, int depth) {
            Node x = n.first;
            if (x == null) return none;
            Value value = eval(x, depth + 1);
            boolean known = value.kind != NULL;
            for (Node m = x.next; m != null; m = m.next) {
                Value other = eval(m, depth + 1);
                if (other.kind == NULL) known = false;
                else if (value.kind != NULL && value.order(other) == 0) return putDenied(n, true, true);
            }
            return putDenied(n, known, false);
        }

        private Value inQuery(Node n, int depth) {
            Value value = eval(n.first, depth + 1);
            int mark = top;
            Select q = n.select;
            runQuery(q, depth + 1);
            boolean known = q.count == 0 || value.kind != NULL;
            boolean found = false;
            for (int i = 0; i < q.count && !found; i++) {
                Value other = cell(q.rowAt(i));
                if (other.kind == NULL) known = false;
                else if (value.kind != NULL && value.order(other) == 0) found = true;
            }
            top = mark;
            return putDenied(n, known || found, found);
        }

        private Value cases(Node n, int depth) {
            Node m = n.first;
            for (int i = 0; m != null && i < TAPE; i++) {
                if (m.next == null) return eval(m, depth + 1);
                if (eval(m, depth + 1).isTrue()) return eval(m.next, depth + 1);
                m = m.next.next;
            }
            return putNull(n);
        }

        private Value coalesce(Node n, int depth) {
            for (Node m = n.first; m != null; m = m.next) {
                Value v = eval(m, depth + 1);
                if (v.kind != NULL) return v;
            }
            return putNull(n);
        }

        private Value substr(Node n, int depth) {
            Node text = n.first;
            Node from = text == null ? null : text.next;
            if (from == null) return none;
            Value t = eval(text, depth + 1);
            Value i = eval(from, depth + 1);
            Value count = eval(from.next, depth + 1);
            if (t.kind != TEXT || i.kind != INT || count.kind != INT) return putNull(n);
            // Places behind the text do not matter, so the sum is cut where it would leave 64 bits.
            long first = Math.max(1, i.number);
            long end = i.number + count.number;
            if (i.number > 0 && count.number > 0 && end < 0) end = GREATEST;
            if (i.number < 0 && count.number < 0 && end >= 0) end = LEAST;
            end = Math.min(end, t.length + 1);
            if (first >= end) n.value.setText(NO_BYTES, 0, 0);
            else n.value.setPart(t, (int) first - 1, (int) end - 1);
            return n.value;
        }

        private Value inner(Node n, int depth) {
            int mark = top;
            Select q = n.select;
            if (q == null) return none;
            runQuery(q, depth + 1);
            if (n.kind == W_EXISTS) put(n, q.count > 0);
            else if (q.count > 0) n.value.set(cell(q.rowAt(0)));
            else n.value.clear();
            top = mark;
            return n.value;
        }

        private Value single(Node n, int depth) {
            Value a = eval(n.first, depth + 1);
            if (n.kind == W_IS) return putDenied(n, true, a.kind == NULL);
            if (a.kind == NULL) return putNull(n);
            if (n.kind == W_NOT) return put(n, a.isFalse());
            if (n.kind == W_LENGTH) n.value.setNumber(a.length);
            else if (n.kind == W_ABS && a.number >= 0) n.value.setNumber(a.number);
            else if (a.number == LEAST) n.value.clear();
            else n.value.setNumber(-a.number);
            return n.value;
        }

        private Value pair(Node n, int depth) {
            Node left = n.first;
            if (left == null) return none;
            Value a = eval(left, depth + 1);
            Value b = eval(left.next, depth + 1);
            if (a.kind == NULL || b.kind == NULL) return putNull(n);
            switch (n.kind) {
                case '=': return put(n, a.order(b) == 0);
                case NOT_EQUAL: return put(n, a.order(b) != 0);
                case '<': return put(n, a.order(b) < 0);
                case LESS_EQUAL: return put(n, a.order(b) <= 0);
                case '>': return put(n, a.order(b) > 0);
                case GREATER_EQUAL: return put(n, a.order(b) >= 0);
                case W_LIKE: return putDenied(n, true, isLike(a, b));
                case BARS: n.value.setJoined(a, b); return n.value;
                default: return reckon(n, a.number, b.number);
            }
        }

        private static Value reckon(Node n, long a, long b) {
            switch (n.kind) {
                case '+':
                    return putReckoned(n, a + b, ((a ^ (a + b)) & (b ^ (a + b))) >= 0);
                case '-':
                    return putReckoned(n, a - b, ((a ^ b) & (a ^ (a - b))) >= 0);
                case '*':
                    return putReckoned(n, a * b, fitsProduct(a, b));
                case '/':
                    if (b == 0) return putNull(n);
                    if (b == -1) return putReckoned(n, -a, a != LEAST);
                    return putReckoned(n, a / b, true);
                default:
                    if (b == 0) return putNull(n);
                    return putReckoned(n, b == -1 ? 0 : a % b, true);
            }
        }

        private static Value putReckoned(Node n, long result, boolean fits) {
            if (fits) n.value.setNumber(result);
            else n.value.clear();
            return n.value;
        }

        private static boolean fitsProduct(long a, long b) {
            if (a == 0 || b == 0) return true;
            if (a == -1) return b != LEAST;
            if (b == -1) return a != LEAST;
            return a * b / b == a;
        }

        private static boolean isLike(Value text, Value pattern) {
            int t = 0;
            int p = 0;
            int star = -1;
            int behindStar = 0;
            int most = (TEXT_BYTES + 2) * (TEXT_BYTES + 2) * 2;
            for (int i = 0; t < text.length && i < most; i++) {
                int sign = pattern.sign(p);
                if (p < pattern.length && sign == '%') {
                    star = p++;
                    behindStar = t;
                } else if (p < pattern.length && (sign == '_' || sign == text.sign(t))) {
                    p++;
                    t++;
                } else if (star >= 0) {
                    p = star + 1;
                    t = ++behindStar;
                } else {
                    return false;
                }
            }
            for (; p < pattern.length && pattern.sign(p) == '%'; p++) {}
            return p == pattern.length;
        }

        // ---- queries

        /** Runs a query that stands in no other one. */
        void answer(Select q) {
            runQuery(q, 0);
        }

        /** Runs a query; its rows are those of its first core then, and their cells stay till the top is set back. */
        private void runQuery(Select q, int depth) {
            if (q == null) return;
            if (depth > DEEPEST) stop(CODE_TOO_MUCH);
            for (Select c = q; c != null; c = c.next) {
                runCore(c, depth);
                if (c != q) combine(q, c);
            }
            sort(q);
            cutRows(q, depth);
        }

        private void combine(Select q, Select c) {
            int width = q.width();
            if (c.operator == W_UNION || c.operator == W_EXCEPT || c.operator == W_INTERSECT) {
                int count = q.count;
                q.count = 0;
                for (int i = 0; i < count && i < LIST; i++) {
                    int row = q.list[i];
                    boolean stays = c.operator == W_UNION || hasRow(c, row, width) == (c.operator == W_INTERSECT);
                    if (stays && !hasRow(q, row, width)) addRow(q, row);
                }
            }
            if (c.operator != W_UNION && c.operator != W_ALL) return;
            for (int i = 0; i < c.count; i++) {
                int row = c.rowAt(i);
                if (c.operator == W_ALL || !hasRow(q, row, width)) addRow(q, row);
            }
        }

        private boolean hasRow(Select c, int row, int width) {
            for (int i = 0; i < c.count; i++) {
                int other = c.rowAt(i);
                int same = 0;
                for (; same < width && cell(other + same).order(cell(row + same)) == 0; same++) {}
                if (same == width) return true;
            }
            return false;
        }

        private void addRow(Select c, int row) {
            if (c.count >= LIST) stop(CODE_TOO_MUCH);
            c.list[c.count++] = row;
        }

        private void sort(Select q) {
            if (q.tail == null) return;
            for (int i = 1; i < q.count && i < LIST; i++) {
                int row = q.list[i];
                int k = i;
                for (; k > 0 && orderRows(q, q.list[k - 1], row) > 0; k--) q.list[k] = q.list[k - 1];
                q.list[k] = row;
            }
        }

        private int orderRows(Select q, int a, int b) {
            for (Node key = q.tail; key != null; key = key.next) {
                if (key.kind != NAME && key.kind != NUMBER) continue;
                int order = cell(a + key.column).order(cell(b + key.column));
                if (order != 0) return key.flags == W_DESC ? -order : order;
            }
            return 0;
        }

        /** Leaves out rows by limit and offset. */
        private void cutRows(Select q, int depth) {
            long limit = LIST;
            long offset = 0;
            for (Node n = q.tail; n != null; n = n.next) {
                if (n.kind != W_LIMIT && n.kind != W_OFFSET) continue;
                Value v = eval(n.first, depth + 1);
                if (v.kind != INT || v.number < 0) continue;
                if (n.kind == W_LIMIT) limit = v.number;
                else offset = v.number;
            }
            int skipped = (int) Math.min(offset, q.count);
            q.count = (int) Math.min(limit, q.count - skipped);
            for (int i = 0; i < q.count && i + skipped < LIST; i++) q.list[i] = q.list[i + skipped];
        }

        private void runCore(Select c, int depth) {
            for (Source s = c.sources; s != null; s = s.next) {
                if (s.select != null) runQuery(s.select, depth + 1);
            }
            c.count = 0;
            c.groupCount = 0;
            if (c.isGrouped() && c.groups == null) addGroup(c);
            takeRows(c, c.sources, depth + 1);
            if (!c.isGrouped()) return;
            for (int i = 0; i < c.groupCount && i < LIST; i++) {
                c.group = c.groupList[i];
                if (c.having == null || eval(c.having, depth + 1).isTrue()) makeRow(c, depth + 1);
            }
        }

        /** Takes up the rows of a source and those behind it, for the rows that are taken up ahead. */
        private void takeRows(Select c, Source s, int depth) {
            if (depth > DEEPEST) stop(CODE_TOO_MUCH);
            if (s == null) {
                combination(c, depth);
                return;
            }
            boolean any = s.table != null ? takeTable(c, s, depth) : takeList(c, s, depth);
            if (any || s.join != W_LEFT) return;
            for (int i = 0; i < s.row.length; i++) s.row[i].clear();
            takeRows(c, s.next, depth + 1);
        }

        private boolean takeTable(Select c, Source s, int depth) {
            boolean any = false;
            int from = openTop;
            findRows(s, depth);
            int to = openTop;
            for (int i = from; i < to && i < OPEN_ROWS; i++) {
                step();
                readRow(s.table, openRows[i], s.row);
                if (passes(c, s, depth)) any = true;
            }
            openTop = from;
            return any;
        }

        private boolean takeList(Select c, Source s, int depth) {
            boolean any = false;
            Select q = s.select;
            if (q == null) return false;
            for (int i = 0; i < q.count; i++) {
                step();
                int row = q.rowAt(i);
                for (int k = 0; k < q.width() && k < s.row.length; k++) s.row[k].set(cell(row + k));
                if (passes(c, s, depth)) any = true;
            }
            return any;
        }

        private boolean passes(Select c, Source s, int depth) {
            if (s.on != null && !eval(s.on, depth + 1).isTrue()) return false;
            takeRows(c, s.next, depth + 1);
            return true;
        }

        /** Reads the row whose cell stands here. */
        void readRow(Definition d, int place, Value[] row) {
            if (d == null || place < 0) return;
            int at = place + 2 + tree.at(place);
            for (int i = 0; i < d.columnCount && i < row.length; i++) at = row[i].readRecord(tree.shown(), at);
        }

        private void combination(Select c, int depth) {
            if (c.where != null && !eval(c.where, depth + 1).isTrue()) return;
            if (c.isGrouped()) takeIn(c, depth);
            else makeRow(c, depth);
        }

        private void makeRow(Select c, int depth) {
            int row = top;
            for (Node n = c.items; n != null; n = n.next) {
                if (n.first != null) {
                    push(eval(n.first, depth + 1));
                    continue;
                }
                for (Source s = c.sources; s != null; s = s.next) {
                    for (int i = 0; i < s.width() && i < s.row.length; i++) push(s.row[i]);
                }
            }
            if (c.distinct && hasRow(c, row, c.width())) top = row;
            else addRow(c, row);
        }

        // ---- groups

        private static int groupWidth(Select c) {
            int width = 0;
            for (Node g = c.groups; g != null; g = g.next) width++;
            return width;
        }

        /** Adds a group of what the refs behind group by are now. */
        private void addGroup(Select c) {
            if (c.groupCount >= LIST) stop(CODE_TOO_MUCH);
            int group = top;
            for (Node g = c.groups; g != null; g = g.next) push(eval(g, 0));
            for (Node a = c.aggregates; a != null; a = a.link) {
                int i = take(1);
                if (a.kind == W_COUNT) cell(i).setNumber(0);
            }
            c.groupList[c.groupCount++] = group;
        }

        private int groupOf(Select c) {
            for (int i = 0; i < c.groupCount && i < LIST; i++) {
                int at = c.groupList[i];
                boolean same = true;
                for (Node g = c.groups; g != null && same; g = g.next) same = eval(g, 0).order(cell(at++)) == 0;
                if (same) return c.groupList[i];
            }
            addGroup(c);
            return c.groupCount > 0 ? c.groupList[c.groupCount - 1] : 0;
        }

        private void takeIn(Select c, int depth) {
            int at = groupOf(c) + groupWidth(c);
            for (Node a = c.aggregates; a != null; a = a.link) {
                Value kept = cell(at++);
                Value v = eval(a.first, depth + 1);
                if (a.first == null) kept.number++;
                else if (v.kind != NULL && (a.flags != W_DISTINCT || isNew(kept, v))) add(a.kind, kept, v);
            }
        }

        /** Whether a value is another one than all that were taken in; then it is kept as one of them. */
        private boolean isNew(Value kept, Value v) {
            int count = 0;
            Value last = kept;
            for (; last.link > 0 && count < LIST; count++) {
                last = cell(last.link - 1);
                if (last.order(v) == 0) return false;
            }
            if (count >= LIST) stop(CODE_TOO_MUCH);
            int added = take(1);
            cell(added).set(v);
            last.link = added + 1;
            return true;
        }

        /** Adds a value to what an aggregate keeps, whose chain of different values stays. */
        private static void add(int kind, Value kept, Value v) {
            int link = kept.link;
            if (kind == W_COUNT) {
                kept.number++;
            } else if (kind == W_SUM) {
                addToSum(kept, v.number);
            } else if (kept.kind == NULL || (kind == W_MIN ? v.order(kept) < 0 : v.order(kept) > 0)) {
                kept.set(v);
            }
            kept.link = link;
        }

        /** A sum that got outside of 64 bits is null with a length of 1, and stays so. */
        private static void addToSum(Value kept, long n) {
            if (kept.kind == NULL) {
                if (kept.length == 0) kept.setNumber(n);
                return;
            }
            long sum = kept.number + n;
            boolean fits = ((kept.number ^ sum) & (n ^ sum)) >= 0;
            if (fits) {
                kept.number = sum;
            } else {
                kept.clear();
                kept.length = 1;
            }
        }

        // ---- rows of tables

        /** Puts the cells of the rows that are to be taken up now behind the open rows. */
        private void findRows(Source s, int depth) {
            if (s.table == null) return;
            if (s.index >= 0) {
                findByIndex(s, depth);
                return;
            }
            // No more rows than steps can be taken up.
            tree.seekFirst(s.table.root());
            for (int i = stepCount; tree.cell >= 0 && i <= STEPS; i++) {
                addOpen(tree.cell);
                tree.next();
            }
        }

        private void addOpen(int row) {
            if (openTop >= OPEN_ROWS) stop(CODE_TOO_MUCH);
            openRows[openTop++] = row;
        }

        private void findByIndex(Source s, int depth) {
            if (!knowsBounds(s, depth)) return;
            int from = openTop;
            boolean lowStrict = s.lower != null && isStrict(s.lower);
            boolean highStrict = s.upper != null && isStrict(s.upper);
            tree.seek(s.table.rootOfIndex(s.index), low, lowLength);
            for (int i = 0; tree.cell >= 0 && i < PAGES * PAGE; i++) {
                int place = tree.cell;
                boolean atHigh = tree.startsWith(place, high, highLength);
                if (s.upper == null ? !atHigh : atHigh ? highStrict : tree.compare(place, high, highLength) > 0) break;
                if (!lowStrict || !tree.startsWith(place, low, lowLength)) {
                    step();
                    addOpen(tree.numberAtEnd(place));
                }
                tree.next();
            }
            sortOpen(from);
            for (int i = from; i < openTop && i < OPEN_ROWS; i++) {
                low[0] = (byte) (openRows[i] >> 8);
                low[1] = (byte) openRows[i];
                openRows[i] = tree.find(s.table.root(), low, 2);
            }
        }

        private static boolean isStrict(Node part) {
            return part.kind == '<' || part.kind == '>';
        }

        /** Evaluates what bounds the entries, and makes keys of it; tells whether nothing is null. */
        private boolean knowsBounds(Source s, int depth) {
            boolean known = true;
            lowLength = 0;
            for (int k = 0; k < s.equalCount && k < INDEX_NAMES; k++) {
                Node part = s.equalParts[k];
                if (part == null) return false;
                Value v = eval(s.bound(part, EQUAL, s.table.indexColumn(s.index, k)), depth + 1);
                if (v.kind == NULL) known = false;
                lowLength = v.putKey(low, lowLength);
            }
            System.arraycopy(low, 0, high, 0, low.length);
            highLength = lowLength;
            int column = s.table.indexColumn(s.index, s.equalCount);
            if (s.lower != null) {
                Value v = eval(s.bound(s.lower, LOWER, column), depth + 1);
                if (v.kind == NULL) known = false;
                lowLength = v.putKey(low, lowLength);
            }
            if (s.upper != null) {
                Value v = eval(s.bound(s.upper, UPPER, column), depth + 1);
                if (v.kind == NULL) known = false;
                highLength = v.putKey(high, highLength);
            }
            // Without a lower bound, entries with null are passed over: their byte is 0, that of others more.
            if (s.lower == null && s.upper != null && lowLength < low.length) low[lowLength++] = 1;
            return known;
        }

        private void sortOpen(int from) {
            for (int i = from + 1; i < openTop && i < OPEN_ROWS; i++) {
                int row = openRows[i];
                int k = i;
                for (; k > from && openRows[k - 1] > row; k--) openRows[k] = openRows[k - 1];
                openRows[k] = row;
            }
        }

        /** Finds the rows of a table for which where is true; their numbers are told by found. */
        int rowsToChange(Source s, Node where, int[] numbers) {
            int count = 0;
            int from = openTop;
            findRows(s, 0);
            int to = openTop;
            for (int i = from; i < to && i < OPEN_ROWS; i++) {
                step();
                readRow(s.table, openRows[i], s.row);
                if (where != null && !eval(where, 0).isTrue()) continue;
                if (count >= numbers.length) stop(CODE_TOO_MUCH);
                numbers[count++] = tree.numberAtEnd(openRows[i]);
            }
            openTop = from;
            return count;
        }

        // ---- rows to put in

        /** Examines a row that stands in cells, but for what is unique; returns the code. */
        int examine(Definition d, int row) {
            for (int i = 0; i < d.columnCount; i++) {
                if (cell(row + i).length > STORED_BYTES) return CODE_TOO_LONG;
            }
            for (int i = 0; i < d.columnCount; i++) {
                Node column = d.column(i);
                if (column != null && column.has(NOT_NULL) && cell(row + i).kind == NULL) return CODE_NULL;
            }
            for (int i = 0; i < d.columnCount && i < ITEMS; i++) d.source.row[i].set(cell(row + i));
            for (Node rule = d.rules; rule != null; rule = rule.next) {
                if (rule.kind == W_CHECK && eval(rule.first, 0).isFalse()) return CODE_CHECK;
            }
            return recordOf(d, row) > RECORD_BYTES ? CODE_TOO_LONG : 0;
        }

        /** Puts the record of a row that stands in cells; returns its length. */
        int recordOf(Definition d, int row) {
            int length = 0;
            for (int i = 0; i < d.columnCount; i++) length = cell(row + i).putRecord(record, length);
            return length;
        }
    }

    /** Changes tables and definitions by statements that were checked. */
    private static final class Changer {
        int changeCount;
        private final Tree tree;
        private final Runner runner;
        private final Checker checker;
        /** Where the text of the statement stands. */
        private byte[] text = NO_BYTES;
        private int textAt;
        private final int[] numbers = new int[LIST];
        /** Rows to take out: their tables, by place among the definitions, and their numbers. */
        private final int[] listTables = new int[LIST];
        private final int[] listRows = new int[LIST];
        private int listCount;
        /** The column, of all columns of all definitions, and the row in which a reference was found last. */
        private int refColumn;
        private int refRow;
        private final Value[] old = new Value[ITEMS];
        private final Value[] gone = new Value[ITEMS];
        private final byte[] probe = new byte[KEY_BYTES];
        private final byte[] key = new byte[KEY_BYTES];
        private final byte[] oldKey = new byte[KEY_BYTES];

        Changer(Tree ofPages, Runner ofQueries, Checker ofDefinitions) {
            tree = ofPages;
            runner = ofQueries;
            checker = ofDefinitions;
            for (int i = 0; i < ITEMS; i++) {
                old[i] = new Value();
                gone[i] = new Value();
            }
        }

        /** Begins a statement, whose text stands here. */
        void begin(Statement s, byte[] from, int at) {
            changeCount = 0;
            listCount = 0;
            text = from;
            textAt = at + s.begin;
        }

        // ---- rows and keys

        /** Puts the key of an index for a row that stands in cells, without the number; returns its length. */
        private int keyOfCells(Definition d, int index, int row) {
            int length = 0;
            for (int k = 0; k < d.widthOf(index); k++) {
                length = runner.cell(row + d.indexColumn(index, k)).putKey(key, length);
            }
            return length;
        }

        private static int keyOfValues(Definition d, int index, Value[] row, byte[] to) {
            int length = 0;
            for (int k = 0; k < d.widthOf(index); k++) {
                int column = d.indexColumn(index, k);
                if (column >= 0 && column < row.length) length = row[column].putKey(to, length);
            }
            return length;
        }

        private static int addNumber(byte[] to, int length, int number) {
            if (length < 0 || length + 2 > to.length) return length;
            to[length] = (byte) (number >> 8);
            to[length + 1] = (byte) number;
            return length + 2;
        }

        private int recordOfOld(Definition d) {
            int length = 0;
            for (int i = 0; i < d.columnCount && i < ITEMS; i++) length = old[i].putRecord(probe, length);
            return length;
        }

        private static boolean sameBytes(byte[] a, int lengthOfA, byte[] b, int lengthOfB) {
            if (lengthOfA != lengthOfB || lengthOfA > a.length || lengthOfB > b.length) return false;
            for (int i = 0; i < lengthOfA; i++) {
                if (a[i] != b[i]) return false;
            }
            return true;
        }

        /** The number of another row with the same values in a unique index, none of them null; 0 if there is none. */
        private int otherRow(Definition d, int index, int row, int number) {
            if (!d.isUniqueIndex(index)) return 0;
            for (int k = 0; k < d.widthOf(index); k++) {
                if (runner.cell(row + d.indexColumn(index, k)).kind == NULL) return 0;
            }
            int length = keyOfCells(d, index, row);
            tree.seek(d.rootOfIndex(index), key, length);
            if (tree.cell < 0 || !tree.startsWith(tree.cell, key, length)) return 0;
            int other = tree.numberAtEnd(tree.cell);
            return other == number ? 0 : other;
        }

        // ---- insert

        void insert(Statement s) {
            Definition d = checker.tableCalled(s.target);
            if (d == null) return;
            int count = s.query == null ? reckonRows(s, d) : queryRows(s, d);
            for (int k = 0; k < count && k < LIST; k++) {
                int row = numbers[k];
                int code = runner.examine(d, row);
                for (int i = 0; i < d.indexCount && code == 0; i++) {
                    int other = otherRow(d, i, row, 0);
                    if (other == 0) continue;
                    if (s.mode != W_REPLACE) {
                        code = CODE_UNIQUE;
                        continue;
                    }
                    listCount = 0;
                    addToList(d, other);
                    takeOutList();
                }
                if (code == 0) putRow(d, row);
                else if (s.mode != W_IGNORE || code == CODE_TOO_LONG) runner.stop(code);
            }
        }

        /** Reckons the rows behind values; where they stand is put among the numbers. */
        private int reckonRows(Statement s, Definition d) {
            int count = 0;
            for (Node row = s.more; row != null && count < LIST; row = row.next) {
                int cells = newRow(d);
                int place = 0;
                for (Node n = row.first; n != null; n = n.next) {
                    Value v = runner.value(n);
                    runner.cell(cells + Checker.columnOfPlace(s.list, place)).set(v);
                    place++;
                }
                numbers[count++] = cells;
            }
            return count;
        }

        private int queryRows(Statement s, Definition d) {
            runner.answer(s.query);
            int count = Math.min(s.query.count, LIST);
            for (int i = 0; i < count; i++) {
                int cells = newRow(d);
                for (int k = 0; k < s.query.width(); k++) {
                    runner.cell(cells + Checker.columnOfPlace(s.list, k)).set(runner.cell(s.query.rowAt(i) + k));
                }
                numbers[i] = cells;
            }
            return count;
        }

        /** Takes cells for a row, with the defaults of its columns. */
        private int newRow(Definition d) {
            int cells = runner.take(d.columnCount);
            for (int i = 0; i < d.columnCount; i++) {
                Node column = d.column(i);
                Node literal = column == null ? null : column.part(W_DEFAULT);
                if (literal != null) runner.cell(cells + i).set(literal.value);
            }
            return cells;
        }

        /** Puts in a row that was examined. */
        private void putRow(Definition d, int row) {
            int last = tree.last(d.root());
            int number = last < 0 ? 1 : tree.numberAtEnd(last) + 1;
            if (number > ROW_NUMBERS) runner.stop(CODE_NO_ROOM);
            int length = runner.recordOf(d, row);
            tree.put(d.root(), key, addNumber(key, 0, number), runner.record, length);
            for (int i = 0; i < d.indexCount; i++) {
                int keyLength = addNumber(key, keyOfCells(d, i, row), number);
                tree.put(d.rootOfIndex(i), key, keyLength, NO_BYTES, 0);
            }
            changeCount++;
            for (int i = 0; i < d.columnCount; i++) needTarget(d, i, runner.cell(row + i));
        }

        /** Stops, if a column references another one that has no such value. */
        private void needTarget(Definition d, int column, Value v) {
            Node n = d.column(column);
            Node reference = n == null ? null : n.part(W_REFERENCES);
            if (reference == null || v.kind == NULL) return;
            Definition other = checker.tableCalled(reference.name);
            if (other == null) return;
            int index = other.indexAlone(other.columnOf(reference.second));
            int length = v.putKey(probe, 0);
            tree.seek(other.rootOfIndex(index), probe, length);
            if (tree.cell < 0 || !tree.startsWith(tree.cell, probe, length)) runner.stop(CODE_REFERENCE);
        }

        // ---- update

        void update(Statement s) {
            Source source = s.scope == null ? null : s.scope.sources;
            Definition d = source == null ? null : source.table;
            if (d == null) return;
            int count = runner.rowsToChange(source, s.scope.where, numbers);
            int cells = runner.take(count * d.columnCount);
            for (int i = 0; i < count && i < LIST; i++) {
                runner.readRow(d, findRow(d, numbers[i]), source.row);
                reckonSettings(s, d, source, cells + i * d.columnCount);
            }
            for (int i = 0; i < count && i < LIST; i++) changeRow(d, numbers[i], cells + i * d.columnCount);
        }

        private int findRow(Definition d, int number) {
            return tree.find(d.root(), key, addNumber(key, 0, number));
        }

        private void reckonSettings(Statement s, Definition d, Source source, int row) {
            for (int i = 0; i < d.columnCount && i < ITEMS; i++) runner.cell(row + i).set(source.row[i]);
            for (Node n = s.list; n != null; n = n.next) {
                Value v = runner.value(n.first);
                runner.cell(row + n.column).set(v);
            }
        }

        /** Changes a row to what stands in cells. */
        private void changeRow(Definition d, int number, int row) {
            int place = findRow(d, number);
            if (place < 0) return;
            runner.readRow(d, place, old);
            int code = runner.examine(d, row);
            if (code != 0) runner.stop(code);
            for (int i = 0; i < d.indexCount; i++) {
                if (otherRow(d, i, row, number) != 0) runner.stop(CODE_UNIQUE);
            }
            int length = runner.recordOf(d, row);
            if (!sameBytes(runner.record, length, probe, recordOfOld(d))) {
                tree.takeOut(d.root(), key, addNumber(key, 0, number));
                tree.put(d.root(), key, addNumber(key, 0, number), runner.record, length);
            }
            for (int i = 0; i < d.indexCount; i++) {
                int oldLength = addNumber(oldKey, keyOfValues(d, i, old, oldKey), number);
                int keyLength = addNumber(key, keyOfCells(d, i, row), number);
                if (sameBytes(key, keyLength, oldKey, oldLength)) continue;
                tree.takeOut(d.rootOfIndex(i), oldKey, oldLength);
                tree.put(d.rootOfIndex(i), key, keyLength, NO_BYTES, 0);
            }
            changeCount++;
            for (int i = 0; i < d.columnCount && i < ITEMS; i++) {
                if (runner.cell(row + i).order(old[i]) != 0) needTarget(d, i, runner.cell(row + i));
            }
            for (int i = 0; i < checker.definitionCount * TABLE_COLUMNS; i++) {
                Definition table = checker.definition(i / TABLE_COLUMNS);
                int column = referenced(table, i % TABLE_COLUMNS, d);
                if (column < 0 || column >= ITEMS || old[column].kind == NULL) continue;
                if (runner.cell(row + column).order(old[column]) == 0) continue;
                int probeLength = old[column].putRecord(probe, 0);
                if (rowWith(table, i % TABLE_COLUMNS, probeLength, 0) > 0) runner.stop(CODE_REFERENCE);
            }
        }

        /** The column of d that a column of a table references; -1 if it references none of it. */
        private static int referenced(Definition table, int column, Definition d) {
            Node n = table == null || table.kind != TABLE ? null : table.column(column);
            Node reference = n == null ? null : n.part(W_REFERENCES);
            return reference == null || reference.name != d.name ? -1 : d.columnOf(reference.second);
        }

        /** The first row behind a number with the value of the probe in a column; 0 if there is none. */
        private int rowWith(Definition d, int column, int probeLength, int number) {
            tree.seek(d.root(), key, addNumber(key, 0, number + 1));
            for (int i = 0; tree.cell >= 0 && i < PAGES * PAGE; i++) {
                if (hasProbe(tree.cell, column, probeLength)) return tree.numberAtEnd(tree.cell);
                tree.next();
            }
            return 0;
        }

        private boolean hasProbe(int place, int column, int probeLength) {
            int at = place + 2 + tree.at(place);
            for (int i = 0; i < column; i++) {
                int head = tree.at(at);
                at += head < 16 ? head + 1 : head - 15;
            }
            for (int i = 0; i < probeLength && i < probe.length; i++) {
                if (tree.at(at + i) != (probe[i] & 255)) return false;
            }
            return true;
        }

        // ---- delete

        void delete(Statement s) {
            Source source = s.scope == null ? null : s.scope.sources;
            if (source == null || source.table == null) return;
            int count = runner.rowsToChange(source, s.scope.where, numbers);
            for (int i = 0; i < count && i < LIST; i++) addToList(source.table, numbers[i]);
            takeOutList();
        }

        private void addToList(Definition d, int number) {
            if (listCount < 0 || listCount >= LIST) runner.stop(CODE_TOO_MUCH);
            for (int i = 0; i < checker.definitionCount; i++) {
                if (checker.definition(i) == d) listTables[listCount] = i;
            }
            listRows[listCount++] = number;
        }

        /** Takes out the rows of the list, and does what references to them ask for. */
        private void takeOutList() {
            for (int i = 0; i < listCount && i < LIST; i++) {
                Definition d = checker.definition(listTables[i]);
                if (d == null || !takesOut(d, listRows[i])) continue;
                refColumn = 0;
                refRow = 0;
                for (int k = 0; k < MANY && findsReferrer(d); k++) {
                    Definition table = checker.definition(refColumn / TABLE_COLUMNS);
                    if (table == null) continue;
                    int action = actionOf(table, refColumn % TABLE_COLUMNS);
                    if (action == W_CASCADE) {
                        addToList(table, refRow);
                    } else if (action == W_SET) {
                        int mark = runner.top;
                        changeRow(table, refRow, rowWithNull(table, refRow, refColumn % TABLE_COLUMNS));
                        runner.top = mark;
                    } else {
                        runner.stop(CODE_REFERENCE);
                    }
                }
            }
        }

        /** Takes out a row, if it is there, and keeps what it was. */
        private boolean takesOut(Definition d, int number) {
            int place = findRow(d, number);
            if (place < 0) return false;
            runner.readRow(d, place, gone);
            tree.takeOut(d.root(), key, addNumber(key, 0, number));
            for (int i = 0; i < d.indexCount; i++) {
                int length = addNumber(key, keyOfValues(d, i, gone, key), number);
                tree.takeOut(d.rootOfIndex(i), key, length);
            }
            changeCount++;
            return true;
        }

        /** Goes on to the next row, behind the one that was found last, with a reference to the row that is gone. */
        private boolean findsReferrer(Definition d) {
            int most = checker.definitionCount * TABLE_COLUMNS;
            for (; refColumn < most; refColumn++) {
                Definition table = checker.definition(refColumn / TABLE_COLUMNS);
                int column = referenced(table, refColumn % TABLE_COLUMNS, d);
                if (column >= 0 && column < ITEMS && gone[column].kind != NULL) {
                    int length = gone[column].putRecord(probe, 0);
                    refRow = rowWith(table, refColumn % TABLE_COLUMNS, length, refRow);
                    if (refRow > 0) return true;
                }
                refRow = 0;
            }
            return false;
        }

        private static int actionOf(Definition table, int column) {
            Node n = table.column(column);
            Node reference = n == null ? null : n.part(W_REFERENCES);
            return reference == null ? 0 : reference.flags;
        }

        /** Takes cells for a row as it is now, but null in a column. */
        private int rowWithNull(Definition d, int number, int column) {
            int row = runner.take(d.columnCount);
            runner.readRow(d, findRow(d, number), old);
            for (int i = 0; i < d.columnCount && i < ITEMS; i++) {
                if (i != column) runner.cell(row + i).set(old[i]);
            }
            return row;
        }

        // ---- definitions

        private int freeNumber() {
            for (int number = 1; number <= DEFINITIONS; number++) {
                boolean isFree = true;
                for (int i = 0; i < checker.definitionCount; i++) {
                    Definition d = checker.definition(i);
                    if (d != null && d.number == number) isFree = false;
                }
                if (isFree) return number;
            }
            return DEFINITIONS;
        }

        void createView(Statement s) {
            putPieces(s, VIEW, 0);
        }

        /** Puts in the pieces of a definition, whose roots stand in the record from place 1 on. */
        private void putPieces(Statement s, int kind, int roots) {
            int number = freeNumber();
            runner.record[0] = (byte) kind;
            putPiece(number, 0, runner.record, 0, roots + 1);
            int length = s.end - s.begin;
            int piece = 1;
            for (int at = 0; at < length && at < TAPE; at += PIECE_BYTES) {
                putPiece(number, piece++, text, textAt + at, Math.min(PIECE_BYTES, length - at));
            }
        }

        private void putPiece(int number, int piece, byte[] from, int at, int length) {
            if (at < 0 || length < 0 || length > probe.length || at > from.length - length) return;
            System.arraycopy(from, at, probe, 0, length);
            key[0] = (byte) number;
            key[1] = (byte) piece;
            tree.put(1, key, 2, probe, length);
        }

        void createTable(Statement s) {
            int trees = 1 + checker.made.ownCount;
            for (int i = 1; i <= trees && i < runner.record.length; i++) runner.record[i] = (byte) tree.takeLeaf();
            putPieces(s, TABLE, trees);
        }

        void createIndex(Statement s) {
            Definition d = checker.tableCalled(s.target);
            if (d == null) return;
            int root = tree.takeLeaf();
            Definition made = checker.made;
            made.begin(TABLE, 0);
            made.shareNames(d);
            made.addIndex(root, s.mode == W_UNIQUE, s.list, 0);
            int row = runner.take(d.columnCount);
            tree.seekFirst(d.root());
            for (int i = 0; tree.cell >= 0 && i <= ROW_NUMBERS; i++) {
                int number = tree.numberAtEnd(tree.cell);
                runner.readRow(d, tree.cell, old);
                for (int k = 0; k < d.columnCount && k < ITEMS; k++) runner.cell(row + k).set(old[k]);
                if (otherRow(made, 0, row, number) != 0) runner.stop(CODE_UNIQUE);
                int length = addNumber(key, keyOfCells(made, 0, row), number);
                tree.put(root, key, length, NO_BYTES, 0);
                tree.seek(d.root(), key, addNumber(key, 0, number + 1));
            }
            runner.record[1] = (byte) root;
            putPieces(s, INDEX, 1);
        }

        void drop(Statement s) {
            Definition d = checker.called(s.name);
            if (d == null) return;
            if (d.kind == TABLE) needNoTable(d);
            for (int i = 0; i < d.rootCount; i++) tree.freeTree(d.rootOfTree(i));
            boolean[] goes = new boolean[DEFINITIONS];
            for (int i = 0; i < checker.definitionCount && i < goes.length; i++) {
                Definition index = checker.definition(i);
                goes[i] = d.kind == TABLE && index != null && index.kind == INDEX && index.target == d.name;
                if (goes[i]) tree.freeTree(index.root());
            }
            takeOutPieces(d);
            for (int i = 0; i < checker.definitionCount && i < goes.length; i++) {
                if (goes[i]) takeOutPieces(checker.definition(i));
            }
        }

        /** Stops, if another table has references to this one. */
        private void needNoTable(Definition d) {
            for (int i = 0; i < checker.definitionCount; i++) {
                Definition table = checker.definition(i);
                if (table == null || table == d || table.kind != TABLE) continue;
                for (int k = 0; k < table.columnCount; k++) {
                    if (referenced(table, k, d) >= 0) runner.stop(CODE_REFERENCE);
                }
            }
        }

        private void takeOutPieces(Definition d) {
            if (d == null) return;
            int pieces = 1 + (d.textLength + PIECE_BYTES - 1) / PIECE_BYTES;
            for (int piece = 0; piece < pieces; piece++) {
                key[0] = (byte) d.number;
                key[1] = (byte) piece;
                tree.takeOut(1, key, 2);
            }
        }
    }
}
