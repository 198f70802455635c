import java.util.ArrayList;
import java.util.List;
import java.util.Random;
import java.util.TreeSet;

// Random calls from fixed seeds: every answer is compared with that of a second model, which is
// written from the document in another way (recursive, and byte by byte).
public final class DataLayoutStorm {
    private static final int RUNS = 12000;
    // what an object answers behind its 512th call is free
    private static final int CALLS = 512;
    private static final int BYTES_AT_ONCE = 90;
    private static final int ITEMS_AT_ONCE = 12;

    private static final int AIOOBE = -7001;
    private static final int IAE = -7002;
    private static final int ISE = -7003;
    private static final int BY_MACHINE = -7004;

    private static final class Node {
        int number;
        int level;
        int usage;
        int n;
        Node up;
        Node record;
        Node named;
        final List<Node> below = new ArrayList<>();
        int fewest;
        int most;
        int now;
        boolean depends;
        boolean sync;
        Integer value;
        final List<int[]> ranges = new ArrayList<>();
        Node from;
        Node to;
        Node other;
        int name = -1;
        long place;
        long size;
        long stride;
        long slack;

        boolean table() {
            return most > 0;
        }

        int bytes() {
            int[] fixed = {0, n, 2 * n, n, n, n + 1, n + 1, n / 2 + 1, 0, 4, 8, 4};
            if (usage == 8) {
                return n > 9 ? 8 : n > 4 ? 4 : 2;
            }
            return fixed[usage];
        }

        boolean in(Node group) {
            return up != null && (up == group || up.in(group));
        }

        boolean inRedefining() {
            return other != null || (up != null && up.inRedefining());
        }

        int tables() {
            return (table() ? 1 : 0) + (up == null ? 0 : up.tables());
        }

        int deepestTables() {
            int deepest = 0;
            for (Node child : below) {
                deepest = Math.max(deepest, child.deepestTables() + (child.table() ? 1 : 0));
            }
            return deepest;
        }

        boolean anyBelowDepends() {
            for (Node child : below) {
                if (child.depends || child.anyBelowDepends()) {
                    return true;
                }
            }
            return false;
        }

        boolean anyValue() {
            boolean any = value != null;
            for (Node child : below) {
                any |= child.anyValue();
            }
            return any;
        }

        int unit() {
            int unit = sync ? bytes() : 1;
            for (Node child : below) {
                unit = Math.max(unit, child.unit());
            }
            return unit;
        }

        long all() {
            return table() ? stride * most : size;
        }
    }

    private static final class Model {
        final List<Node> nodes = new ArrayList<>();
        boolean laid;
        boolean looking = true;
        int looked;
        int total;
        byte[] bytes = new byte[0];

        Node get(int i) {
            return i < 1 || i > nodes.size() ? null : nodes.get(i - 1);
        }

        boolean redefined(Node x) {
            for (Node y : nodes) {
                if (y.other == x) {
                    return true;
                }
            }
            return false;
        }

        int item(int level, int usage, int size) {
            if (!(level >= 1 && level <= 49 || level == 66 || level == 77 || level == 88)) {
                return -4;
            }
            if (usage < 0 || usage > 11 || ((level == 66 || level == 88) && usage != 0)) {
                return -4;
            }
            int most = usage == 1 ? 200 : usage == 2 ? 100 : usage >= 3 && usage <= 8 ? 18 : 0;
            if (size > most || size < Math.min(1, most)) {
                return -4;
            }
            Node x = new Node();
            x.level = level;
            x.usage = usage;
            x.n = size;
            Node last = get(nodes.size());
            Node record = last == null ? null : last.record;
            if (level == 1 || level == 77) {
                x.record = x;
            } else if (record == null) {
                return -3;
            } else {
                x.record = record;
                if (level == 66 && (record.level != 1 || record.usage != 0)) {
                    return -3;
                }
                if (level == 88) {
                    int at = nodes.size();
                    while (get(at).level == 88) {
                        at--;
                    }
                    x.named = get(at);
                    if (x.named.usage < 3 || x.named.usage > 8) {
                        return -3;
                    }
                }
                if (level <= 49) {
                    for (Node y : nodes) {
                        if (y.record == record && y.level == 66) {
                            return -3;
                        }
                        if (y.record == record && y.level < level) {
                            x.up = y;
                        }
                    }
                    if (x.up == null || x.up.usage != 0) {
                        return -3;
                    }
                    for (Node y : x.up.below) {
                        if (y.level != level) {
                            return -3;
                        }
                    }
                }
            }
            if (nodes.size() == 120) {
                return -1;
            }
            if (x.up != null) {
                x.up.below.add(x);
            }
            nodes.add(x);
            x.number = nodes.size();
            laid = false;
            return x.number;
        }

        int clause(int item, int kind, int a, int b) {
            Node x = get(item);
            if (x == null || (kind == 5 && (get(a) == null || get(b) == null))) {
                return -2;
            }
            if (kind < 0 || kind > 5 || (kind == 0 && (a < 1 || a > 999)) || (kind == 4 && a > b)
                    || (kind == 1 && (a < 0 || a > b || b < 1 || b > 999))) {
                return -4;
            }
            boolean can = kind <= 1 ? table(x, kind, a, b) : kind == 2 ? sync(x) : kind == 3 ? value(x, a)
                    : kind == 4 ? range(x, a, b) : part(x, get(a), get(b));
            if (can) {
                laid = false;
            }
            return can ? 1 : 0;
        }

        boolean table(Node x, int kind, int a, int b) {
            if (x.level < 2 || x.level > 49 || x.table() || redefined(x)
                    || x.tables() + 1 + x.deepestTables() > 3 || x.anyBelowDepends()
                    || (kind == 1 && x.tables() > 0)) {
                return false;
            }
            x.fewest = a;
            x.most = kind == 0 ? a : b;
            x.now = x.most;
            x.depends = kind == 1;
            return true;
        }

        boolean sync(Node x) {
            boolean can = x.usage >= 8 && !x.sync;
            x.sync |= can;
            return can;
        }

        boolean value(Node x, int a) {
            if (x.usage < 3 || x.usage > 8 || x.value != null || x.inRedefining()
                    || Long.toString(Math.abs((long) a)).length() > x.n) {
                return false;
            }
            x.value = a;
            return true;
        }

        boolean range(Node x, int a, int b) {
            return x.level == 88 && x.ranges.size() < 8 && x.ranges.add(new int[] {a, b});
        }

        boolean part(Node x, Node from, Node to) {
            if (x.level != 66 || x.from != null || to.number < from.number || to.in(from)) {
                return false;
            }
            for (Node end : new Node[] {from, to}) {
                if (end.record != x.record || end.level < 2 || end.level > 49) {
                    return false;
                }
            }
            x.from = from;
            x.to = to;
            return true;
        }

        int redefines(int item, int other) {
            Node x = get(item);
            Node y = get(other);
            if (x == null || y == null) {
                return -2;
            }
            if (y.number >= x.number || x.level != y.level || x.level > 49 || x.up != y.up || y.other != null
                    || y.table() || x.other != null || redefined(x) || x.name >= 0 || y.name >= 0 || x.anyValue()) {
                return 0;
            }
            for (Node z : nodes.subList(y.number, x.number - 1)) {
                if (z.level == x.level && z.up == x.up && z.other != y) {
                    return 0;
                }
            }
            x.other = y;
            laid = false;
            return 1;
        }

        int external(int item, int name) {
            Node x = get(item);
            if (x == null) {
                return -2;
            }
            if (name < 0 || name > 99) {
                return -4;
            }
            if (x.level != 1 || x.name >= 0 || x.other != null || redefined(x)) {
                return 0;
            }
            x.name = name;
            laid = false;
            return 1;
        }

        Node first(int name) {
            for (Node x : nodes) {
                if (name >= 0 && x.name == name) {
                    return x;
                }
            }
            return null;
        }

        static long up(long n, long unit) {
            while (n % unit != 0) {
                n++;
            }
            return n;
        }

        void put(Node x, long behind) {
            long from = x.other == null ? behind : x.other.place;
            x.place = up(from, x.table() ? x.unit() : x.sync ? x.bytes() : 1);
            x.slack = x.place - from;
            long end = x.place + x.bytes();
            for (Node child : x.below) {
                put(child, end);
                if (child.other == null) {
                    end = child.place + child.all();
                }
            }
            x.size = end - x.place;
            x.stride = up(x.size, x.unit());
        }

        int lay() {
            long end = 0;
            for (Node x : nodes) {
                if (x.record == x) {
                    Node first = first(x.name);
                    put(x, first != null && first != x ? first.place : up(end, 8));
                    end = Math.max(end, x.place + x.size);
                }
            }
            for (Node x : nodes) {
                if (!right(x)) {
                    return -10 - x.number;
                }
            }
            if (end > 20000) {
                return -9;
            }
            total = (int) end;
            bytes = new byte[total];
            for (Node x : nodes) {
                Node first = first(x.record.name);
                if (x.level != 66 && x.level != 88 && x.usage != 0 && !x.inRedefining()
                        && (first == null || first == x.record)) {
                    fill(x, x, 0);
                }
                if (x.level == 66) {
                    x.place = x.from.place;
                    x.size = x.to.place + x.to.size - x.from.place;
                }
            }
            laid = true;
            return total;
        }

        void fill(Node x, Node around, long moved) {
            if (around == null) {
                image(x, (int) (x.place + moved));
                return;
            }
            for (int k = 0; k < Math.max(1, around.most); k++) {
                fill(x, around.up, moved + k * around.stride);
            }
        }

        void image(Node x, int at) {
            long v = x.value == null ? 0 : x.value;
            StringBuilder text = new StringBuilder(Long.toString(Math.abs(v)));
            while (text.length() < x.n) {
                text.insert(0, '0');
            }
            for (int k = 0; k < x.bytes(); k++) {
                int b = 0;
                if (x.usage == 1 || (x.usage == 2 && k % 2 == 1)) {
                    b = 32;
                } else if (x.usage >= 3 && x.usage <= 6) {
                    int digit = x.usage == 5 ? k - 1 : k;
                    b = digit >= 0 && digit < x.n ? text.charAt(digit) : v < 0 ? 45 : 43;
                    if (v < 0 && (x.usage == 3 && k == x.n - 1 || x.usage == 4 && k == 0)) {
                        b += 64;
                    }
                } else if (x.usage == 7) {
                    String halves = (x.n % 2 == 0 ? "0" : "") + text + (v < 0 ? "d" : "c");
                    b = Integer.parseInt(halves.substring(2 * k, 2 * k + 2), 16);
                } else if (x.usage == 8) {
                    b = (int) (v >> (8 * (x.bytes() - 1 - k)));
                }
                bytes[at + k] = (byte) b;
            }
        }

        boolean right(Node x) {
            if (x.level == 88) {
                return !x.ranges.isEmpty();
            }
            if (x.level == 66) {
                return x.from != null && rightPart(x);
            }
            if (x.usage == 0 && x.below.isEmpty()) {
                return false;
            }
            for (Node y : nodes) {
                if (x.depends && y.number > x.number && y.record == x.record && y.level < 50 && !y.in(x)) {
                    return false;
                }
            }
            if (x.other != null && (x.place != x.other.place || (x.level != 1 && x.all() > x.other.size))) {
                return false;
            }
            Node first = first(x.name);
            return first == null || first.size == x.size;
        }

        boolean rightPart(Node x) {
            if (x.from.inRedefining() || x.to.inRedefining()) {
                return false;
            }
            for (Node y : nodes) {
                if (y.table()) {
                    for (Node z : nodes) {
                        boolean among = z.number >= x.from.number && z.number <= x.to.number && z.level < 50;
                        if (among && (y == z || y.in(z) || z.in(y))) {
                            return false;
                        }
                    }
                }
            }
            return true;
        }

        long sizeNow(Node x) {
            long end = x.place + x.size;
            if (x.usage == 0 && x.level != 66) {
                end = x.place;
                for (Node child : x.below) {
                    if (child.other == null) {
                        long all = child.table() ? child.now * child.stride : sizeNow(child);
                        end = child.place + all;
                    }
                }
            }
            return end - x.place;
        }

        int refusal(Node x, boolean also66) {
            if (x == null) {
                return -2;
            }
            if (x.level == 88 || (also66 && x.level == 66)) {
                return -4;
            }
            return laid ? 0 : -5;
        }

        int ask(int call, int a, int b, int c, int d) {
            Node x = get(a);
            int no = refusal(x, call == 7 || call == 12);
            switch (call) {
                case 5:
                    return no != 0 ? no : (int) x.place;
                case 6:
                    return no != 0 ? no : (int) sizeNow(x);
                case 7:
                    return no != 0 ? no : subscript(x, b, c, d);
                case 9:
                    return x == null ? -2 : !x.depends ? -4 : depend(x, b);
                case 11:
                    return no != 0 ? no : b < 1 || c < 1 || (long) b + c - 1 > sizeNow(x) ? -1 : (int) x.place + b - 1;
                case 12:
                    return no != 0 ? no : (int) x.slack;
                case 16:
                    return holds(x);
                default:
                    return 0;
            }
        }

        int depend(Node x, int n) {
            if (n < x.fewest || n > x.most) {
                return 0;
            }
            x.now = n;
            return 1;
        }

        int subscript(Node x, int... given) {
            List<Node> tables = new ArrayList<>();
            for (Node y = x; y != null; y = y.up) {
                if (y.table()) {
                    tables.add(0, y);
                }
            }
            long at = x.place;
            for (int k = 0; k < tables.size(); k++) {
                if (looking) {
                    looked++;
                    if (given[k] < 1 || given[k] > tables.get(k).now) {
                        return -6;
                    }
                }
                at += ((long) given[k] - 1) * tables.get(k).stride;
            }
            return at < 0 || at + x.size > total ? AIOOBE : (int) at;
        }

        int holds(Node x) {
            if (x == null || x.level != 88) {
                return IAE;
            }
            if (!laid) {
                return ISE;
            }
            StringBuilder text = new StringBuilder();
            Node y = x.named;
            int n = y.bytes();
            long v = 0;
            for (int k = 0; k < n; k++) {
                int b = bytes[(int) y.place + k] & 255;
                v = v << 8 | b;
                text.append(y.usage == 7 ? String.format("%02x", b) : Character.toString((char) b));
            }
            if (y.usage == 8) {
                v = v << (64 - 8 * n) >> (64 - 8 * n);
                return within(x, v);
            }
            int sign = y.usage == 4 || y.usage == 5 ? 0 : text.length() - 1;
            char s = text.charAt(sign);
            boolean minus = y.usage == 7 ? s == 'd' : y.usage >= 5 ? s == '-' : s >= 'p' && s <= 'y';
            boolean plus = y.usage == 7 ? s == 'c' || s == 'f' : y.usage >= 5 ? s == '+' : s >= '0' && s <= '9';
            if (!minus && !plus) {
                return ISE;
            }
            if (y.usage >= 5) {
                text.deleteCharAt(sign);
            } else if (minus) {
                text.setCharAt(sign, (char) (s - 64));
            }
            String digits = text.substring(text.length() - y.n);
            if (!digits.matches("[0-9]+")) {
                return ISE;
            }
            return within(x, minus ? -Long.parseLong(digits) : Long.parseLong(digits));
        }

        int within(Node x, long v) {
            for (int[] range : x.ranges) {
                if (v >= range[0] && v <= range[1]) {
                    return 1;
                }
            }
            return 0;
        }

        int count(int what) {
            int records = 0;
            int tables = 0;
            int slack = 0;
            for (Node x : nodes) {
                records += x.level == 1 || x.level == 77 ? 1 : 0;
                tables += x.table() ? 1 : 0;
                slack += x.level == 66 || x.level == 88 ? 0 : (int) x.slack;
            }
            int[] answers = {nodes.size(), records, tables, laid ? slack : -1, laid ? total : -1};
            return what < 0 || what > 4 ? -1 : answers[what];
        }
    }

    private final Random random;
    private final DataLayout real = new DataLayout();
    private final Model model = new Model();
    private final List<String> told = new ArrayList<>();
    private static final TreeSet<Integer> laysSeen = new TreeSet<>();
    private static int laidRuns = 0;

    private DataLayoutStorm(long seed) {
        random = new Random(seed);
    }

    private int number(int... choices) {
        return choices[random.nextInt(choices.length)];
    }

    private int odd() {
        return number(Integer.MIN_VALUE, Integer.MAX_VALUE, -1, 0, 1, 2, 3, 50, 999, 1000, 20000);
    }

    private int someItem() {
        int n = model.nodes.size();
        return random.nextInt(30) == 0 ? odd() : 1 + (n == 0 ? 0 : random.nextInt(n));
    }

    /** Told once for each call of the real object. */
    private boolean same(String call, long got, long want) {
        told.add(call + " -> " + got);
        if (got == want) {
            return true;
        }
        for (String line : told) {
            System.out.println(line);
        }
        System.out.println("due is " + want);
        return false;
    }

    private boolean tellItem() {
        Node last = model.get(model.nodes.size());
        int level = random.nextInt(25) == 0 ? odd() : number(1, 2, 3, 3, 4, 5, 5, 66, 77, 88, 88);
        if (last != null && last.level <= 49 && random.nextInt(3) > 0) {
            level = last.usage == 0 ? Math.min(49, last.level + 1) : last.level;
        }
        int usage = level == 66 || level == 88 ? 0 : random.nextInt(3) == 0 ? 0 : random.nextInt(12);
        int size = usage == 0 || usage > 8 ? 0 : 1 + random.nextInt(usage < 3 ? 6 : random.nextInt(4) == 0 ? 18 : 4);
        if (random.nextInt(25) == 0) {
            size = odd();
        }
        return same("item(" + level + ", " + usage + ", " + size + ")",
                real.item(level, usage, size), model.item(level, usage, size));
    }

    private boolean tellClause() {
        int item = someItem();
        int kind = random.nextInt(30) == 0 ? odd() : number(0, 0, 1, 2, 2, 3, 4, 5);
        Node x = model.get(item);
        if (x != null && x.level == 88 && random.nextInt(4) > 0) {
            kind = 4;
        }
        if (x != null && x.level == 66 && random.nextInt(4) > 0) {
            kind = 5;
        }
        int a = kind == 5 ? someItem() : random.nextInt(20) == 0 ? odd() : random.nextInt(6) - (kind >= 3 ? 3 : 0);
        int b = kind == 5 ? Math.max(a, someItem()) : random.nextInt(20) == 0 ? odd() : a + random.nextInt(5);
        if (kind == 3 && random.nextBoolean()) {
            a = random.nextInt(20001) - 10000;
        }
        return same("clause(" + item + ", " + kind + ", " + a + ", " + b + ")",
                real.clause(item, kind, a, b), model.clause(item, kind, a, b));
    }

    private boolean tellRedefines() {
        int item = someItem();
        int other = someItem();
        Node x = model.get(item);
        if (x != null && x.up != null && random.nextInt(3) > 0) {
            int at = x.up.below.indexOf(x);
            other = x.up.below.get(Math.max(0, at - 1 - random.nextInt(2))).number;
        }
        return same("redefines(" + item + ", " + other + ")", real.redefines(item, other), model.redefines(item, other));
    }

    private boolean tellExternal() {
        int item = someItem();
        int name = random.nextInt(20) == 0 ? odd() : random.nextInt(2);
        return same("external(" + item + ", " + name + ")", real.external(item, name), model.external(item, name));
    }

    private boolean layOut() {
        int want = model.lay();
        laysSeen.add(want);
        if (want >= 0) {
            laidRuns++;
        }
        return same("lay()", real.lay(), want) && (want < 0 || isAsLaid());
    }

    private boolean mayCall() {
        return told.size() < CALLS;
    }

    /** Where a stretch of so many out of all begins. */
    private int stretch(int all, int many) {
        return all <= many ? 0 : random.nextInt(all - many + 1);
    }

    private boolean isAsLaid() {
        int from = stretch(model.total, BYTES_AT_ONCE);
        for (int i = from; i < model.total && i < from + BYTES_AT_ONCE && mayCall(); i++) {
            if (!same("at(" + i + ")", real.at(i), model.bytes[i])) {
                return false;
            }
        }
        int items = model.nodes.size();
        int first = 1 + stretch(items, ITEMS_AT_ONCE);
        for (int i = first; i <= items && i < first + ITEMS_AT_ONCE; i++) {
            for (int call = 5; call <= 12 && mayCall(); call += call == 6 ? 6 : 1) {
                if (!askBoth(call, i, 1, 1, 1)) {
                    return false;
                }
            }
        }
        return true;
    }

    private boolean askBoth(int call, int a, int b, int c, int d) {
        return same("call " + call + " (" + a + ", " + b + ", " + c + ", " + d + ")",
                askReal(call, a, b, c, d), model.ask(call, a, b, c, d));
    }

    private int askReal(int call, int a, int b, int c, int d) {
        try {
            switch (call) {
                case 5:
                    return real.place(a);
                case 6:
                    return real.size(a);
                case 7:
                    return real.subscript(a, b, c, d);
                case 9:
                    return real.depending(a, b);
                case 11:
                    return real.refer(a, b, c);
                case 12:
                    return real.slack(a);
                case 16:
                    return real.holds(a) ? 1 : 0;
                default:
                    return 0;
            }
        } catch (ArrayIndexOutOfBoundsException e) {
            return thrown(e);
        } catch (IllegalArgumentException e) {
            return IAE;
        } catch (IllegalStateException e) {
            return ISE;
        }
    }

    private boolean askSome() {
        int call = number(5, 6, 7, 7, 7, 9, 9, 11, 11, 12, 16, 16, 16);
        int item = someItem();
        int b = random.nextInt(15) == 0 ? odd() : random.nextInt(7);
        int c = random.nextInt(15) == 0 ? odd() : random.nextInt(7);
        int d = random.nextInt(15) == 0 ? odd() : random.nextInt(7);
        return askBoth(call, item, b, c, d);
    }

    private boolean changeByte() {
        int i = random.nextInt(10) == 0 ? odd() : model.total == 0 ? 0 : random.nextInt(model.total + 1);
        byte b = (byte) number(43, 45, 48, 50, 57, 58, 112, 114, 121, 122, 12, 13, 15, 0x2c, 0x3d, 0x9f, 0xa1, -1, 0, 32);
        int want = i < 0 || i > 19999 ? -4 : !model.laid ? -5 : i >= model.total ? -4 : 1;
        if (want == 1) {
            model.bytes[i] = b;
        }
        return same("octet(" + i + ", " + b + ")", real.octet(i, b), want);
    }

    private boolean askByte() {
        int i = random.nextInt(4) == 0 ? odd() : random.nextInt(model.total + 2);
        long want = model.laid && i >= 0 && i < model.total ? model.bytes[i] : AIOOBE;
        long got;
        try {
            got = real.at(i);
        } catch (ArrayIndexOutOfBoundsException e) {
            got = thrown(e);
        }
        return same("at(" + i + ")", got, want);
    }

    /** The machine throws the same class, but is not to: its texts begin with "Index". */
    private static int thrown(ArrayIndexOutOfBoundsException e) {
        String text = e.getMessage();
        return text == null || text.startsWith("Index") ? BY_MACHINE : AIOOBE;
    }

    private boolean switchChecks() {
        boolean on = random.nextBoolean();
        model.looking = on;
        return same("checks(" + on + ")", real.checks(on), model.looked);
    }

    private boolean askCount() {
        int what = random.nextInt(5) == 0 ? odd() : random.nextInt(5);
        return same("count(" + what + ")", real.count(what), model.count(what));
    }

    private boolean step(int of, int i) {
        // first items, then clauses, then questions, with some of each at any time
        int phase = random.nextInt(12) == 0 ? random.nextInt(3) : i < of ? 0 : i < 2 * of ? 1 : 2;
        int die = random.nextInt(12);
        if (phase == 0) {
            return die < 10 ? tellItem() : tellClause();
        }
        if (phase == 1) {
            return die < 7 ? tellClause() : die < 9 ? tellRedefines() : die < 10 ? tellExternal() : layOut();
        }
        if (!model.laid && die < 4) {
            return layOut();
        }
        return die < 7 ? askSome() : die < 9 ? changeByte() : die < 10 ? askByte() : die < 11 ? askCount() : switchChecks();
    }

    private boolean run() {
        int of = 2 + random.nextInt(random.nextInt(6) == 0 ? 150 : 14);
        for (int i = 0; i < 3 * of + 40 && mayCall(); i++) {
            if (!step(of, i)) {
                return false;
            }
        }
        return true;
    }

    public static void main(String[] args) {
        for (int seed = 1; seed <= RUNS; seed++) {
            if (!new DataLayoutStorm(seed).run()) {
                System.out.println("the answers of seed " + seed + " are not as due");
                System.exit(1);
            }
        }
        boolean wide = laysSeen.contains(-9) && laysSeen.first() < -30 && laysSeen.last() > 500 && laidRuns > RUNS / 2;
        System.out.println(RUNS + " runs as due, with " + laidRuns + " layouts" + (wide ? "" : ": too few kinds of them"));
        if (!wide) {
            System.exit(1);
        }
    }
}
