/**
 * Data of a business language laid out in bytes. The document (DOC.md) says what each call
 * answers; the comments here say only why a thing is done as it is.
 */
public final class DataLayout {
    public static final int NONE = -1;

    private static final int NO_SUCH_ITEM = -2;
    private static final int CANNOT_BE_THERE = -3;
    private static final int NOT_SO = -4;
    private static final int NOT_LAID_OUT = -5;
    private static final int WRONG_SUBSCRIPT = -6;
    private static final int TOO_MANY_BYTES = -9;
    private static final int ITEM_NOT_RIGHT = -10;

    private static final int MOST_ITEMS = 120;
    private static final int MOST_BYTES = 20000;
    private static final int MOST_ENTRIES = 999;
    private static final int MOST_TABLES = 3;
    private static final int MOST_RANGES = 8;
    private static final int MOST_NAME = 99;
    private static final int RECORD_UNIT = 8;
    private static final int SPACE = 32;

    private static final int TOP = 1;
    private static final int DEEPEST = 49;
    private static final int RENAMING = 66;
    private static final int ALONE = 77;
    private static final int NAMING = 88;

    private static final int GROUP = 0;
    private static final int TEXT = 1;
    private static final int NATIONAL = 2;
    private static final int SIGN_IN_LAST = 3;
    private static final int SIGN_IN_FIRST = 4;
    private static final int SIGN_AHEAD = 5;
    private static final int SIGN_BEHIND = 6;
    private static final int PACKED = 7;
    private static final int BINARY = 8;
    private static final int SHORT_FLOAT = 9;
    private static final int LONG_FLOAT = 10;
    private static final int INDEX = 11;

    private static final int FIXED_TABLE = 0;
    private static final int DEPENDING_TABLE = 1;
    private static final int SYNCHRONISED = 2;
    private static final int VALUE = 3;
    private static final int RANGE = 4;
    private static final int PART = 5;

    private final Tree tree;
    private final Plan plan;
    private final Store store;
    private boolean laid;
    private boolean looking;
    private int looked;

    public DataLayout() {
        tree = new Tree();
        plan = new Plan(tree);
        store = new Store();
        laid = false;
        looking = true;
        looked = 0;
    }

    public int item(int level, int usage, int size) {
        if (!Kinds.isLevel(level) || !Kinds.isUsage(level, usage, size)) {
            return NOT_SO;
        }
        if (!tree.hasPlaceFor(level)) {
            return CANNOT_BE_THERE;
        }
        if (tree.told >= MOST_ITEMS) {
            return NONE;
        }
        tree.add(level, usage, size);
        laid = false;
        return tree.told;
    }

    public int clause(int item, int kind, int a, int b) {
        Item x = tree.find(item);
        if (x == null) {
            return NO_SUCH_ITEM;
        }
        if (kind == PART && (tree.find(a) == null || tree.find(b) == null)) {
            return NO_SUCH_ITEM;
        }
        if (!Kinds.isClause(kind, a, b)) {
            return NOT_SO;
        }
        if (!tellClause(x, kind, a, b)) {
            return 0;
        }
        laid = false;
        return 1;
    }

    public int lay() {
        laid = false;
        plan.layAll();
        int wrong = plan.firstWrong();
        if (wrong != NONE) {
            return ITEM_NOT_RIGHT - wrong;
        }
        if (plan.end > MOST_BYTES) {
            return TOO_MANY_BYTES;
        }
        store.clear((int) plan.end);
        fillFirstEntries();
        fillOtherEntries();
        laid = true;
        return store.used;
    }

    public int place(int item) {
        Item x = tree.find(item);
        int refusal = refusalFor(x, false);
        return refusal != 0 || x == null ? refusal : (int) x.spot.place;
    }

    public int size(int item) {
        Item x = tree.find(item);
        int refusal = refusalFor(x, false);
        return refusal != 0 || x == null ? refusal : (int) x.lengthNow();
    }

    public int subscript(int item, int a, int b, int c) throws ArrayIndexOutOfBoundsException {
        Item x = tree.find(item);
        int refusal = refusalFor(x, true);
        if (refusal != 0 || x == null) {
            return refusal;
        }
        long where = x.spot.place;
        int tables = x.tablesWithin();
        for (int k = 1; k <= tables && k <= MOST_TABLES; k++) {
            int given = k == 1 ? a : k == 2 ? b : c;
            Table table = x.tableOutwards(tables - k);
            if (table == null) {
                continue;
            }
            if (looking) {
                looked++;
                if (given < 1 || given > table.now) {
                    return WRONG_SUBSCRIPT;
                }
            }
            where += (given - 1L) * table.stride;
        }
        if (where < 0 || where + x.length() > store.used) {
            throw new ArrayIndexOutOfBoundsException("the subscripts lead out of all bytes");
        }
        return (int) where;
    }

    public int checks(boolean on) {
        looking = on;
        return looked;
    }

    public int depending(int item, int n) {
        Item x = tree.find(item);
        if (x == null) {
            return NO_SUCH_ITEM;
        }
        Table table = x.table;
        if (table == null || !table.depends) {
            return NOT_SO;
        }
        if (n < table.fewest || n > table.most) {
            return 0;
        }
        table.now = n;
        return 1;
    }

    public int redefines(int item, int other) {
        Item x = tree.find(item);
        Item y = tree.find(other);
        if (x == null || y == null) {
            return NO_SUCH_ITEM;
        }
        if (!tree.mayRedefine(x, y)) {
            return 0;
        }
        x.other = y;
        y.redefined = true;
        laid = false;
        return 1;
    }

    public int refer(int item, int from, int n) {
        Item x = tree.find(item);
        int refusal = refusalFor(x, false);
        if (refusal != 0 || x == null) {
            return refusal;
        }
        if (from < 1 || n < 1 || from - 1L + n > x.lengthNow()) {
            return NONE;
        }
        return (int) (x.spot.place + from - 1);
    }

    public int slack(int item) {
        Item x = tree.find(item);
        int refusal = refusalFor(x, true);
        return refusal != 0 || x == null ? refusal : x.spot.slack;
    }

    public int external(int item, int name) {
        Item x = tree.find(item);
        if (x == null) {
            return NO_SUCH_ITEM;
        }
        if (name < 0 || name > MOST_NAME) {
            return NOT_SO;
        }
        if (x.level != TOP || x.name != NONE || x.other != null || x.redefined) {
            return 0;
        }
        x.name = name;
        laid = false;
        return 1;
    }

    public byte at(int i) throws ArrayIndexOutOfBoundsException {
        if (!laid || !store.has(i)) {
            throw new ArrayIndexOutOfBoundsException("there is no such byte");
        }
        return (byte) store.get(i);
    }

    public int octet(int i, byte b) {
        if (i < 0 || i >= MOST_BYTES) {
            return NOT_SO;
        }
        if (!laid) {
            return NOT_LAID_OUT;
        }
        if (!store.has(i)) {
            return NOT_SO;
        }
        store.put(i, b);
        return 1;
    }

    public boolean holds(int item) throws IllegalArgumentException, IllegalStateException {
        Item x = tree.find(item);
        if (x == null || x.level != NAMING || x.named == null) {
            throw new IllegalArgumentException("there is no such name of values");
        }
        if (!laid) {
            throw new IllegalStateException("it is not laid out");
        }
        long number = Numbers.read(store, x.named);
        return x.ranges != null && x.ranges.contain(number);
    }

    public int count(int what) {
        switch (what) {
            case 0:
                return tree.told;
            case 1:
                return tree.records();
            case 2:
                return tree.tables();
            case 3:
                return laid ? tree.slackBytes() : NONE;
            case 4:
                return laid ? store.used : NONE;
            default:
                return NONE;
        }
    }

    /** 0 when the item has a place of its own to tell; renaming ones are refused on demand. */
    private int refusalFor(Item x, boolean alsoRenaming) {
        if (x == null) {
            return NO_SUCH_ITEM;
        }
        if (x.level == NAMING || (alsoRenaming && x.level == RENAMING)) {
            return NOT_SO;
        }
        return laid ? 0 : NOT_LAID_OUT;
    }

    private boolean tellClause(Item x, int kind, int a, int b) {
        switch (kind) {
            case FIXED_TABLE:
                return tellTable(x, new Table(a, a, false));
            case DEPENDING_TABLE:
                return tellTable(x, new Table(a, b, true));
            case SYNCHRONISED:
                return tellSynchronised(x);
            case VALUE:
                return tellValue(x, a);
            case RANGE:
                return tellRange(x, a, b);
            case PART:
                return tellPart(x, tree.find(a), tree.find(b));
            default:
                return false;
        }
    }

    private boolean tellTable(Item x, Table table) {
        if (!tree.mayBeTable(x, table.depends)) {
            return false;
        }
        x.table = table;
        return true;
    }

    private static boolean tellSynchronised(Item x) {
        if (x.usage < BINARY || x.usage > INDEX || x.synchronised) {
            return false;
        }
        x.synchronised = true;
        return true;
    }

    private static boolean tellValue(Item x, int value) {
        if (!x.isNumber() || x.valued || x.liesInRedefining()) {
            return false;
        }
        if (!Numbers.hasRoomFor(x.digits, value)) {
            return false;
        }
        x.valued = true;
        x.value = value;
        return true;
    }

    private static boolean tellRange(Item x, int low, int high) {
        if (x.level != NAMING) {
            return false;
        }
        if (x.ranges == null) {
            x.ranges = new Ranges();
        }
        return x.ranges.add(low, high);
    }

    private static boolean tellPart(Item x, Item from, Item to) {
        if (x.level != RENAMING || x.from != null || from == null || to == null) {
            return false;
        }
        if (!from.isInner() || from.record != x.record || !to.isInner() || to.record != x.record) {
            return false;
        }
        if (to.number < from.number || to.isBelow(from)) {
            return false;
        }
        x.from = from;
        x.to = to;
        return true;
    }

    private void fillFirstEntries() {
        for (int i = 1; i <= tree.told; i++) {
            Item x = tree.row[i];
            if (!x.lies() || x.spot.lent) {
                continue;
            }
            int where = (int) x.spot.place;
            if (x.usage == TEXT) {
                fillText(where, x.bytes, 1);
            } else if (x.usage == NATIONAL) {
                fillText(where, x.bytes, 2);
            } else if (x.isNumber()) {
                Numbers.write(store, x);
            }
        }
    }

    private void fillText(int where, int bytes, int width) {
        for (int k = width; k <= bytes; k += width) {
            store.put(where + k - 1, SPACE);
        }
    }

    /** From the last item on, so that inner tables are full when the entry around them is copied. */
    private void fillOtherEntries() {
        for (int i = tree.told; i >= 1; i--) {
            Item x = tree.row[i];
            if (x.table != null && !x.spot.lent) {
                store.repeat((int) x.spot.place, (int) x.table.stride, x.table.most);
            }
        }
    }

    /** What levels, usages and clauses there are. */
    private static final class Kinds {
        static boolean isLevel(int level) {
            return (level >= TOP && level <= DEEPEST)
                    || level == RENAMING || level == ALONE || level == NAMING;
        }

        static boolean isUsage(int level, int usage, int size) {
            if (level == RENAMING || level == NAMING) {
                return usage == GROUP && size == 0;
            }
            switch (usage) {
                case TEXT:
                    return size >= 1 && size <= 200;
                case NATIONAL:
                    return size >= 1 && size <= 100;
                case GROUP:
                case SHORT_FLOAT:
                case LONG_FLOAT:
                case INDEX:
                    return size == 0;
                default:
                    return isNumeric(usage) && size >= 1 && size <= 18;
            }
        }

        static boolean isNumeric(int usage) {
            return usage >= SIGN_IN_LAST && usage <= BINARY;
        }

        static boolean isClause(int kind, int a, int b) {
            switch (kind) {
                case FIXED_TABLE:
                    return a >= 1 && a <= MOST_ENTRIES;
                case DEPENDING_TABLE:
                    return a >= 0 && a <= b && b >= 1 && b <= MOST_ENTRIES;
                case RANGE:
                    return a <= b;
                default:
                    return kind == SYNCHRONISED || kind == VALUE || kind == PART;
            }
        }

        static int bytesOf(int usage, int size) {
            switch (usage) {
                case TEXT:
                case SIGN_IN_LAST:
                case SIGN_IN_FIRST:
                    return size;
                case NATIONAL:
                    return 2 * size;
                case SIGN_AHEAD:
                case SIGN_BEHIND:
                    return size + 1;
                case PACKED:
                    return (size >> 1) + 1;
                case BINARY:
                    return size <= 4 ? 2 : size <= 9 ? 4 : 8;
                case SHORT_FLOAT:
                case INDEX:
                    return 4;
                case LONG_FLOAT:
                    return 8;
                default:
                    return 0;
            }
        }
    }

    /** The number of entries of an item. */
    private static final class Table {
        final int fewest;
        final int most;
        final boolean depends;
        int now;
        long stride;

        Table(int fewest, int most, boolean depends) {
            this.fewest = fewest;
            this.most = most;
            this.depends = depends;
            this.now = most;
            this.stride = 0;
        }
    }

    /** The values that a name of level 88 stands for. */
    private static final class Ranges {
        private final int[] lows = new int[MOST_RANGES];
        private final int[] highs = new int[MOST_RANGES];
        private int told = 0;

        boolean add(int low, int high) {
            if (told >= MOST_RANGES) {
                return false;
            }
            lows[told] = low;
            highs[told] = high;
            told++;
            return true;
        }

        boolean contain(long number) {
            for (int k = 0; k < told && k < MOST_RANGES; k++) {
                if (number >= lows[k] && number <= highs[k]) {
                    return true;
                }
            }
            return false;
        }
    }

    /**
     * Where an item lies. Places are long while they are worked out: tables of 999 by 999 by 999
     * entries must be told wrong or too long, not wrapped round.
     */
    private static final class Spot {
        long place;
        long end;
        int unit;
        int slack;
        // its bytes are first set through another item
        boolean lent;
        // the table with whose number of entries its end moves
        Table moving;
    }

    /** An item with its clauses. */
    private static final class Item {
        final int number;
        final int level;
        final int usage;
        final int digits;
        final int bytes;
        final Item parent;
        final Item named;
        final Spot spot;
        Item record;
        int levelBelow;
        Table table;
        boolean synchronised;
        boolean valued;
        int value;
        Ranges ranges;
        Item from;
        Item to;
        Item other;
        boolean redefined;
        int name;

        Item(int number, int level, int usage, int size, Item around) {
            this.number = number;
            this.level = level;
            this.usage = usage;
            this.digits = size;
            this.bytes = Kinds.bytesOf(usage, size);
            this.parent = level <= DEEPEST ? around : null;
            this.named = level == NAMING ? around : null;
            this.spot = new Spot();
            this.name = NONE;
        }

        boolean isNumber() {
            return Kinds.isNumeric(usage);
        }

        boolean isInner() {
            return level > TOP && level <= DEEPEST;
        }

        /** Whether it has bytes by itself, not those of items that it names or renames. */
        boolean lies() {
            return level != RENAMING && level != NAMING;
        }

        boolean isBelow(Item upper) {
            for (Item p = parent; p != null; p = p.parent) {
                if (p == upper) {
                    return true;
                }
            }
            return false;
        }

        boolean liesInRedefining() {
            for (Item p = this; p != null; p = p.parent) {
                if (p.other != null) {
                    return true;
                }
            }
            return false;
        }

        /** How many tables there are from this item outwards, itself included. */
        int tablesWithin() {
            int tables = 0;
            for (Item p = this; p != null; p = p.parent) {
                if (p.table != null) {
                    tables++;
                }
            }
            return tables;
        }

        /** The table with so many others inside it, from this item outwards. */
        Table tableOutwards(int inside) {
            int left = inside;
            for (Item p = this; p != null; p = p.parent) {
                if (p.table != null) {
                    if (left == 0) {
                        return p.table;
                    }
                    left--;
                }
            }
            return null;
        }

        /** The bytes of one entry, with as many as may be. */
        long length() {
            return spot.end - spot.place;
        }

        long lengthNow() {
            Table moving = spot.moving;
            if (moving == null) {
                return length();
            }
            return length() - (moving.most - moving.now) * moving.stride;
        }

        /** The bytes of all entries, with what they take more at their ends. */
        long extent() {
            return table == null ? length() : table.most * table.stride;
        }
    }

    /** All items, and what may stand where among them. */
    private static final class Tree {
        final Item[] row = new Item[MOST_ITEMS + 1];
        int told = 0;

        Item find(int number) {
            return number < 1 || number > told || number > MOST_ITEMS ? null : row[number];
        }

        void add(int level, int usage, int size) {
            if (told >= MOST_ITEMS) {
                return;
            }
            Item latest = find(told);
            Item around = around(level);
            Item x = new Item(told + 1, level, usage, size, around);
            x.record = level == TOP || level == ALONE || latest == null ? x : latest.record;
            if (around != null && level <= DEEPEST) {
                around.levelBelow = level;
            }
            told++;
            row[told] = x;
        }

        boolean hasPlaceFor(int level) {
            if (level == TOP || level == ALONE) {
                return true;
            }
            Item around = around(level);
            if (around == null) {
                return false;
            }
            if (level == NAMING) {
                return around.isNumber();
            }
            if (around.usage != GROUP) {
                return false;
            }
            return level == RENAMING || around.levelBelow == 0 || around.levelBelow == level;
        }

        /** What a new item of the level would be below, rename a part of, or name values of. */
        private Item around(int level) {
            switch (level) {
                case TOP:
                case ALONE:
                    return null;
                case RENAMING:
                    return latestTopRecord();
                case NAMING:
                    return latestNotNaming();
                default:
                    return latestOfLesserLevel(level);
            }
        }

        private Item latestTopRecord() {
            Item latest = find(told);
            return latest == null || latest.record.level != TOP ? null : latest.record;
        }

        private Item latestNotNaming() {
            for (int i = told; i >= 1; i--) {
                if (row[i].level != NAMING) {
                    return row[i];
                }
            }
            return null;
        }

        private Item latestOfLesserLevel(int level) {
            for (int i = told; i >= 1; i--) {
                Item x = row[i];
                if (x.level == RENAMING || x.level == ALONE) {
                    return null;
                }
                if (x.level < level) {
                    return x;
                }
            }
            return null;
        }

        boolean mayBeTable(Item x, boolean depends) {
            if (!x.isInner() || x.table != null || x.redefined) {
                return false;
            }
            if (depends && x.tablesWithin() > 0) {
                return false;
            }
            for (int i = x.number; i <= told; i++) {
                Item y = row[i];
                if (y != x && !y.isBelow(x)) {
                    continue;
                }
                if (y.tablesWithin() >= MOST_TABLES || (y.table != null && y.table.depends)) {
                    return false;
                }
            }
            return true;
        }

        boolean mayRedefine(Item x, Item other) {
            if (other.number >= x.number || other.level != x.level || x.level > DEEPEST) {
                return false;
            }
            if (other.parent != x.parent || other.other != null || other.table != null) {
                return false;
            }
            if (x.other != null || x.redefined || x.name != NONE || other.name != NONE) {
                return false;
            }
            return allBetweenRedefine(x, other) && !hasValues(x);
        }

        private boolean allBetweenRedefine(Item x, Item other) {
            for (int i = other.number + 1; i < x.number; i++) {
                Item y = row[i];
                if (y.level == x.level && y.parent == x.parent && y.other != other) {
                    return false;
                }
            }
            return true;
        }

        private boolean hasValues(Item x) {
            for (int i = x.number; i <= told; i++) {
                Item y = row[i];
                if (y.valued && (y == x || y.isBelow(x))) {
                    return true;
                }
            }
            return false;
        }

        Item firstOfName(int name) {
            for (int i = 1; i <= told; i++) {
                if (row[i].name == name) {
                    return row[i];
                }
            }
            return null;
        }

        int records() {
            int records = 0;
            for (int i = 1; i <= told; i++) {
                if (row[i].record == row[i]) {
                    records++;
                }
            }
            return records;
        }

        int tables() {
            int tables = 0;
            for (int i = 1; i <= told; i++) {
                if (row[i].table != null) {
                    tables++;
                }
            }
            return tables;
        }

        int slackBytes() {
            int bytes = 0;
            for (int i = 1; i <= told; i++) {
                bytes += row[i].spot.slack;
            }
            return bytes;
        }
    }

    /** Lays out the items of a tree, and tells which of them isn't right. */
    private static final class Plan {
        private final Tree tree;
        // behind all records
        long end;

        Plan(Tree tree) {
            this.tree = tree;
            this.end = 0;
        }

        /** Lays out wrong items too: the first one that isn't right is asked for afterwards. */
        void layAll() {
            end = 0;
            gatherUnits();
            Item open = null;
            for (int i = 1; i <= tree.told; i++) {
                Item x = tree.row[i];
                if (x.lies()) {
                    finishUpTo(open, x.parent);
                    begin(x);
                    open = x;
                }
            }
            finishUpTo(open, null);
            placeParts();
            markMoving();
        }

        /** From the last item on, so that a group knows the greatest unit of all below it. */
        private void gatherUnits() {
            for (int i = tree.told; i >= 1; i--) {
                Spot spot = tree.row[i].spot;
                spot.unit = 1;
                spot.moving = null;
            }
            for (int i = tree.told; i >= 1; i--) {
                Item x = tree.row[i];
                if (x.synchronised) {
                    x.spot.unit = x.bytes;
                }
                if (x.parent != null) {
                    x.parent.spot.unit = Math.max(x.parent.spot.unit, x.spot.unit);
                }
            }
        }

        private void begin(Item x) {
            Spot spot = x.spot;
            long behind = x.parent == null ? beginOfRecord(x) : beginBelow(x, x.parent);
            spot.place = roundUp(behind, x.synchronised || x.table != null ? spot.unit : 1);
            spot.slack = (int) (spot.place - behind);
            spot.end = spot.place + x.bytes;
            spot.lent = x.other != null || (x.parent == null ? isLaterExternal(x) : x.parent.spot.lent);
        }

        private long beginOfRecord(Item x) {
            if (x.other != null) {
                return x.other.spot.place;
            }
            Item first = x.name == NONE ? null : tree.firstOfName(x.name);
            return first == null || first == x ? roundUp(end, RECORD_UNIT) : first.spot.place;
        }

        private static long beginBelow(Item x, Item parent) {
            return x.other != null ? x.other.spot.place : parent.spot.end;
        }

        private boolean isLaterExternal(Item x) {
            return x.name != NONE && tree.firstOfName(x.name) != x;
        }

        /** Nothing more comes below the open item, nor below those around it, but for the last. */
        private void finishUpTo(Item open, Item last) {
            for (Item x = open; x != null && x != last; x = x.parent) {
                finish(x);
            }
        }

        private void finish(Item x) {
            if (x.table != null) {
                x.table.stride = roundUp(x.length(), x.spot.unit);
            }
            long behind = x.spot.place + x.extent();
            if (x.parent == null) {
                end = Math.max(end, behind);
            } else if (x.other == null) {
                x.parent.spot.end = Math.max(x.parent.spot.end, behind);
            }
        }

        private void placeParts() {
            for (int i = 1; i <= tree.told; i++) {
                Item x = tree.row[i];
                if (x.from != null && x.to != null) {
                    x.spot.place = x.from.spot.place;
                    x.spot.end = x.to.spot.end;
                }
            }
        }

        /** A redefining item does not move the end of what it is below. */
        private void markMoving() {
            for (int i = 1; i <= tree.told; i++) {
                Item x = tree.row[i];
                if (x.table != null && x.table.depends) {
                    for (Item p = x; p.other == null && p.parent != null; p = p.parent) {
                        p.parent.spot.moving = x.table;
                    }
                }
            }
        }

        int firstWrong() {
            for (int i = 1; i <= tree.told; i++) {
                if (!isRight(tree.row[i])) {
                    return i;
                }
            }
            return NONE;
        }

        private boolean isRight(Item x) {
            if (x.level == NAMING) {
                return x.ranges != null;
            }
            if (x.level == RENAMING) {
                return isRightPart(x.from, x.to);
            }
            if (x.usage == GROUP && x.levelBelow == 0) {
                return false;
            }
            if (x.table != null && x.table.depends && !isLastOfRecord(x)) {
                return false;
            }
            return (x.other == null || fitsOver(x, x.other)) && fitsFirstOfName(x);
        }

        private boolean isRightPart(Item from, Item to) {
            if (from == null || to == null) {
                return false;
            }
            if (from.liesInRedefining() || to.liesInRedefining()) {
                return false;
            }
            for (int i = from.number; i <= tree.told; i++) {
                Item y = tree.row[i];
                if ((i <= to.number || y.isBelow(to)) && y.tablesWithin() > 0) {
                    return false;
                }
            }
            return true;
        }

        private boolean isLastOfRecord(Item x) {
            for (int i = x.number + 1; i <= tree.told; i++) {
                Item y = tree.row[i];
                if (y.record == x.record && y.lies() && !y.isBelow(x)) {
                    return false;
                }
            }
            return true;
        }

        private static boolean fitsOver(Item x, Item other) {
            if (x.spot.place != other.spot.place) {
                return false;
            }
            return x.level == TOP || x.extent() <= other.extent();
        }

        private boolean fitsFirstOfName(Item x) {
            Item first = x.name == NONE ? null : tree.firstOfName(x.name);
            return first == null || first.length() == x.length();
        }

        /** The unit is a power of two. */
        private static long roundUp(long n, int unit) {
            return (n + unit - 1) & -(long) unit;
        }
    }

    /** The bytes; one row that grows, as most layouts are far shorter than the longest. */
    private static final class Store {
        private byte[] all = new byte[0];
        int used = 0;

        void clear(int bytes) {
            used = Math.max(0, Math.min(bytes, MOST_BYTES));
            if (used > all.length) {
                all = new byte[Math.min(MOST_BYTES, Math.max(used, 2 * all.length))];
                return;
            }
            for (int i = 0; i < used; i++) {
                all[i] = 0;
            }
        }

        boolean has(int i) {
            return i >= 0 && i < used;
        }

        int get(int i) {
            return has(i) ? all[i] & 255 : 0;
        }

        void put(int i, int octet) {
            if (has(i)) {
                all[i] = (byte) octet;
            }
        }

        /** The bytes at a place stand there so many times, one behind the other. */
        void repeat(int where, int bytes, int times) {
            if (where < 0 || bytes < 0) {
                return;
            }
            int behind = Math.min(where + bytes * times, used);
            for (int i = where + bytes; i < behind; i++) {
                all[i] = all[i - bytes];
            }
        }
    }

    /** Numbers as bytes. */
    private static final class Numbers {
        private static final int ZERO = 48;
        private static final int NINE = 57;
        private static final int NEGATIVE_DIGIT = 64;
        private static final int PLUS = 43;
        private static final int MINUS = 45;
        private static final int PACKED_PLUS = 12;
        private static final int PACKED_MINUS = 13;
        private static final int PACKED_UNSIGNED = 15;

        static boolean hasRoomFor(int digits, int value) {
            long above = 1;
            for (int k = 0; k < digits && k < 18; k++) {
                above *= 10;
            }
            return value < above && value > -above;
        }

        static void write(Store store, Item x) {
            int where = (int) x.spot.place;
            if (x.usage == BINARY) {
                writeBinary(store, where, x.bytes, x.value);
            } else if (x.usage == PACKED) {
                writePacked(store, where, x.bytes, x.value);
            } else {
                writeDigits(store, where, x);
            }
        }

        private static void writeBinary(Store store, int where, int bytes, long value) {
            long left = value;
            for (int k = bytes - 1; k >= 0; k--) {
                store.put(where + k, (int) (left & 255));
                left >>= 8;
            }
        }

        private static void writePacked(Store store, int where, int bytes, long value) {
            long left = Math.abs(value);
            int low = value < 0 ? PACKED_MINUS : PACKED_PLUS;
            for (int k = bytes - 1; k >= 0; k--) {
                int high = (int) (left % 10);
                store.put(where + k, high * 16 + low);
                left /= 10;
                low = (int) (left % 10);
                left /= 10;
            }
        }

        private static void writeDigits(Store store, int where, Item x) {
            long left = Math.abs((long) x.value);
            int first = x.usage == SIGN_AHEAD ? where + 1 : where;
            int signed = signedDigit(x);
            for (int k = x.digits - 1; k >= 0; k--) {
                int sign = k == signed && x.value < 0 ? NEGATIVE_DIGIT : 0;
                store.put(first + k, ZERO + (int) (left % 10) + sign);
                left /= 10;
            }
            if (signed == NONE) {
                store.put(signByte(x), x.value < 0 ? MINUS : PLUS);
            }
        }

        /** Which digit has the sign in it, from 0 on. */
        private static int signedDigit(Item x) {
            return x.usage == SIGN_IN_LAST ? x.digits - 1 : x.usage == SIGN_IN_FIRST ? 0 : NONE;
        }

        private static int signByte(Item x) {
            int where = (int) x.spot.place;
            return x.usage == SIGN_AHEAD ? where : where + x.digits;
        }

        static long read(Store store, Item x) {
            int where = (int) x.spot.place;
            if (x.usage == BINARY) {
                return readBinary(store, where, x.bytes);
            }
            if (x.usage == PACKED) {
                return readPacked(store, where, x);
            }
            return readDigits(store, where, x);
        }

        private static long readBinary(Store store, int where, int bytes) {
            // the highest byte brings the sign
            long number = (byte) store.get(where);
            for (int k = 1; k < bytes; k++) {
                number = number * 256 + store.get(where + k);
            }
            return number;
        }

        private static long readPacked(Store store, int where, Item x) {
            int halves = 2 * x.bytes;
            long number = 0;
            for (int k = halves - 1 - x.digits; k < halves - 1; k++) {
                int half = halfByte(store, where, k);
                if (half > 9) {
                    throw new IllegalStateException("a half byte is no digit");
                }
                number = number * 10 + half;
            }
            int sign = halfByte(store, where, halves - 1);
            if (sign != PACKED_PLUS && sign != PACKED_MINUS && sign != PACKED_UNSIGNED) {
                throw new IllegalStateException("the last half byte is no sign");
            }
            return sign == PACKED_MINUS ? -number : number;
        }

        private static int halfByte(Store store, int where, int half) {
            int octet = store.get(where + (half >> 1));
            return (half & 1) == 0 ? octet >> 4 : octet & 15;
        }

        private static long readDigits(Store store, int where, Item x) {
            int first = x.usage == SIGN_AHEAD ? where + 1 : where;
            int signed = signedDigit(x);
            boolean negative = signed == NONE && readsMinus(store.get(signByte(x)));
            long number = 0;
            for (int k = 0; k < x.digits; k++) {
                int octet = store.get(first + k);
                if (k == signed && octet > NINE) {
                    octet -= NEGATIVE_DIGIT;
                    negative = true;
                }
                if (octet < ZERO || octet > NINE) {
                    throw new IllegalStateException("a byte is no digit");
                }
                number = number * 10 + octet - ZERO;
            }
            return negative ? -number : number;
        }

        private static boolean readsMinus(int octet) {
            if (octet != PLUS && octet != MINUS) {
                throw new IllegalStateException("a byte is no sign");
            }
            return octet == MINUS;
        }
    }
}
