// Each sentence of the document that names a boundary case, with the calls just inside the bound
// and just beyond it. A sentence without both of them fails by itself.
public final class DataLayoutBounds {
    private static final int LEAST = Integer.MIN_VALUE;
    private static final int GREATEST = Integer.MAX_VALUE;

    private static final int OUT_OF_BYTES = -7001;
    private static final int NO_SUCH_NAME = -7002;
    private static final int NO_NUMBER = -7003;

    private static final int GROUP = 0;
    private static final int TEXT = 1;

    private static final int TABLE = 0;
    private static final int DEPENDS = 1;
    private static final int SYNC = 2;
    private static final int VALUE = 3;
    private static final int RANGE = 4;
    private static final int PART = 5;

    private static String sentence = "";
    private static int sentences = 0;
    private static int asked = 0;
    private static int wrong = 0;
    private static int inside = 1;
    private static int beyond = 1;

    public static void main(String[] args) {
        termsItems();
        termsUsages();
        termsNumbers();
        termsClauses();
        termsTables();
        termsRedefining();
        termsLayingOut();
        termsBytes();
        termsRefusals();
        promisesOfTelling();
        promiseLay();
        promisesOfPlaces();
        promiseSubscript();
        promisesOfTables();
        promisesOfBytes();
        promiseHolds();
        promiseCount();
        theWholeOfIt();
        says("");
        System.out.println((sentences - 1) + " sentences, " + asked + " answers asked, " + wrong + " of them wrong");
        if (wrong != 0) {
            System.exit(1);
        }
    }

    // ---- how it is asked

    private static void says(String text) {
        if (inside == 0 || beyond == 0) {
            wrong++;
            System.out.println("no call " + (inside == 0 ? "inside" : "beyond") + " the bound of: " + sentence);
        }
        sentence = text;
        sentences++;
        inside = 0;
        beyond = 0;
    }

    private static void due(String call, long got, long want) {
        asked++;
        if (got != want) {
            wrong++;
            System.out.println(call + " answered " + got + ", due is " + want + " (" + sentence + ")");
        }
    }

    private static void in(String call, long got, long want) {
        inside++;
        due(call, got, want);
    }

    private static void out(String call, long got, long want) {
        beyond++;
        due(call, got, want);
    }

    /** Inside or beyond the bound, as the first word says. */
    private static void by(boolean within, String call, long got, long want) {
        if (within) {
            in(call, got, want);
        } else {
            out(call, got, want);
        }
    }

    private static int subscript(DataLayout x, int item, int a, int b, int c) {
        try {
            return x.subscript(item, a, b, c);
        } catch (ArrayIndexOutOfBoundsException e) {
            return OUT_OF_BYTES;
        }
    }

    private static int at(DataLayout x, int i) {
        try {
            return x.at(i);
        } catch (ArrayIndexOutOfBoundsException e) {
            return OUT_OF_BYTES;
        }
    }

    private static int holds(DataLayout x, int item) {
        try {
            return x.holds(item) ? 1 : 0;
        } catch (IllegalArgumentException e) {
            return NO_SUCH_NAME;
        } catch (IllegalStateException e) {
            return NO_NUMBER;
        }
    }

    private static void bytes(DataLayout x, int from, int... want) {
        for (int k = 0; k < want.length; k++) {
            in("at(" + (from + k) + ")", at(x, from + k), (byte) want[k]);
        }
    }

    /** An object with items, each told by its level, usage and size. */
    private static DataLayout with(int... told) {
        DataLayout x = new DataLayout();
        add(x, told);
        return x;
    }

    private static void add(DataLayout x, int... told) {
        for (int k = 0; k + 2 < told.length; k += 3) {
            int want = x.count(0) + 1;
            due("item(" + told[k] + ", " + told[k + 1] + ", " + told[k + 2] + ")",
                    x.item(told[k], told[k + 1], told[k + 2]), want);
        }
    }

    private static void clause(DataLayout x, int item, int kind, int a, int b) {
        due("clause(" + item + ", " + kind + ", " + a + ", " + b + ")", x.clause(item, kind, a, b), 1);
    }

    private static void redefine(DataLayout x, int item, int other) {
        due("redefines(" + item + ", " + other + ")", x.redefines(item, other), 1);
    }

    private static void lay(DataLayout x, int want) {
        due("lay()", x.lay(), want);
    }

    private static int up(int n, int unit) {
        while (n % unit != 0) {
            n++;
        }
        return n;
    }

    // ---- Terms: items and levels

    private static void termsItems() {
        says("ITEMS are numbered from 1 on (at most 120), in their order");
        fullOfItems();
        says("each of a LEVEL: 1 .. 49, 66, 77, 88");
        for (int level = -3; level <= 130; level++) {
            askLevel(level);
        }
        askLevel(256 + 5);
        askLevel(65536 + 1);
        askLevel(GREATEST);
        askLevel(LEAST);
        says("One of level 1 or 77 begins a RECORD");
        DataLayout x = new DataLayout();
        int[][] told = {{1, 0, 0, 1}, {2, 3, 1, 1}, {88, 0, 0, 1}, {2, 1, 1, 1}, {66, 0, 0, 1}, {77, 3, 1, 2},
            {88, 0, 0, 2}, {1, 1, 1, 3}, {77, 1, 1, 4}, {1, 0, 0, 5}, {49, 1, 1, 5}};
        for (int[] row : told) {
            add(x, row[0], row[1], row[2]);
            by(row[0] == 1 || row[0] == 77, "count(1) behind level " + row[0], x.count(1), row[3]);
        }
        belowWhat();
        renamingAndNaming();
    }

    private static void fullOfItems() {
        DataLayout x = new DataLayout();
        out("place(1)", x.place(1), -2);
        out("refused: item", x.item(2, 1, 1), -3);
        in("the first one", x.item(1, 0, 0), 1);
        out("refused: item", x.item(5, 1, 0), -4);
        for (int i = 2; i <= 119; i++) {
            in("item", x.item(5, 1, 1), i);
        }
        in("the last one", x.item(5, 3, 1), 120);
        lay(x, 119);
        out("one more", x.item(5, 1, 1), -1);
        out("a name more", x.item(88, 0, 0), -1);
        out("a part more", x.item(66, 0, 0), -1);
        out("a record more", x.item(1, 1, 1), -1);
        out("a 77 more", x.item(77, 1, 1), -1);
        out("-4 is told first", x.item(5, 1, 201), -4);
        out("-3 is told first", x.item(4, 1, 1), -3);
        in("there are 120", x.count(0), 120);
        in("it stays laid out", x.place(120), 118);
        out("none behind it", x.place(121), -2);
        in("a clause of the last one", x.clause(120, VALUE, 5, 0), 1);
        out("a clause of one behind it", x.clause(121, VALUE, 5, 0), -2);
        out("a clause of one ahead of all", x.clause(0, VALUE, 5, 0), -2);
        lay(x, 119);
        in("the value of the last one", at(x, 118), 53);
    }

    private static void askLevel(int level) {
        boolean is = (level >= 1 && level <= 49) || level == 66 || level == 77 || level == 88;
        DataLayout x = level == 88 ? with(77, 3, 1) : with(1, GROUP, 0);
        by(is, "level " + level, x.item(level, GROUP, 0), is ? 2 : -4);
    }

    private static void belowWhat() {
        says("One of level 2 .. 49 is BELOW the latest item of a lesser level in its record");
        out("2 without a record", new DataLayout().item(2, 1, 1), -3);
        out("49 without a record", new DataLayout().item(49, 1, 1), -3);
        DataLayout x = with(1, 0, 0, 4, 0, 0, 5, 1, 3);
        in("one of the same level as a group", x.item(4, 1, 9), 4);
        lay(x, 12);
        in("it isn't below that", x.size(2), 3);
        out("one level more, behind a text", x.item(5, 1, 1), -3);
        in("a name is not of a lesser level", with(1, 0, 0, 5, 3, 1, 88, 0, 0).item(5, 1, 1), 4);
        in("nor is it one for 49", with(1, 0, 0, 49, 3, 1, 88, 0, 0).item(49, 1, 1), 4);
        out("not of the record ahead", with(1, 0, 0, 5, 1, 1, 1, 1, 1).item(5, 1, 1), -3);
        out("not of the record ahead of 77", with(1, 0, 0, 5, 1, 1, 77, 1, 1).item(5, 1, 1), -3);
        DataLayout y = with(1, 0, 0, 2, 0, 0, 3, 1, 1, 1, 0, 0);
        in("of its own record", y.item(3, 1, 1), 5);
        lay(y, 9);
        in("its place", y.place(5), 8);
        everyLevelBelow();
        says("(77 has none below it)");
        for (int level = 2; level <= 49; level++) {
            in("below 1", with(1, 0, 0).item(level, 1, 1), 2);
            out("below a group of 77", with(77, 0, 0).item(level, 1, 1), -3);
            out("below a number of 77", with(77, 3, 1, 88, 0, 0).item(level, 1, 1), -3);
            out("behind 77", with(1, 0, 0, level, 1, 1, 77, 0, 0).item(level, 1, 1), -3);
        }
        says("which must be a group");
        for (int usage = 0; usage <= 11; usage++) {
            int n = usage == 0 || usage > 8 ? 0 : 1;
            by(usage == 0, "below usage " + usage, with(1, 0, 0, 5, usage, n).item(6, 1, 1), usage == 0 ? 3 : -3);
            by(usage == 0, "below a record of usage " + usage, with(1, usage, n).item(2, 1, 1), usage == 0 ? 2 : -3);
        }
        says("all that are below one have the same level");
        DataLayout z = with(1, 0, 0, 5, 0, 0, 10, 0, 0, 20, 1, 1);
        out("below 10: 19", z.item(19, 1, 1), -3);
        out("below 10: 11", z.item(11, 1, 1), -3);
        in("below 10: 20", z.item(20, 1, 1), 5);
        out("below 5: 9", z.item(9, 1, 1), -3);
        out("below 5: 6", z.item(6, 1, 1), -3);
        in("below 5: 10", z.item(10, 1, 1), 6);
        out("below 1: 4", z.item(4, 1, 1), -3);
        out("below 1: 2", z.item(2, 1, 1), -3);
        in("below 1: 5", z.item(5, 0, 0), 7);
        in("below another 5: 6", z.item(6, 1, 1), 8);
        out("below another 5: 10", z.item(10, 1, 1), -3);
        in("below another 5: 6", z.item(6, 1, 1), 9);
        in("below another 1", with(1, 0, 0, 5, 1, 1, 1, 0, 0).item(4, 1, 1), 4);
    }

    private static void everyLevelBelow() {
        for (int level = 2; level <= 49; level++) {
            DataLayout x = with(1, 0, 0, level, 1, 3, level, 1, 2);
            out("another level below it", x.item(level == 2 ? 3 : level - 1, 1, 1), -3);
            in("level " + level + " laid", x.lay(), 5);
            in("the one ahead of it", x.place(3), 3);
            in("the one around it", x.size(1), 5);
        }
        DataLayout deep = with(1, 0, 0);
        for (int level = 2; level <= 48; level++) {
            add(deep, level, 0, 0);
        }
        out("48 groups without an item", deep.lay(), -58);
        add(deep, 49, 1, 3, 49, 1, 4);
        in("one of level 49 in all others", deep.lay(), 7);
        for (int i = 1; i <= 48; i++) {
            in("the one of level " + i, deep.size(i), 7);
        }
        in("the second one of level 49", deep.place(50), 3);
    }

    private static void renamingAndNaming() {
        says("One of level 66 RENAMES a part of its record, which is a group of level 1");
        in("of a group", with(1, 0, 0, 2, 1, 1).item(66, 0, 0), 3);
        in("of a group, deep in it", with(1, 0, 0, 2, 0, 0, 3, 3, 1, 88, 0, 0).item(66, 0, 0), 5);
        out("of none", new DataLayout().item(66, 0, 0), -3);
        for (int usage = 0; usage <= 11; usage++) {
            int n = usage == 0 || usage > 8 ? 0 : 1;
            by(usage == 0, "of level 1, usage " + usage, with(1, usage, n).item(66, 0, 0), usage == 0 ? 2 : -3);
            out("of level 77, usage " + usage, with(77, usage, n).item(66, 0, 0), -3);
        }
        out("of 77 behind a group", with(1, 0, 0, 2, 1, 1, 77, 1, 1).item(66, 0, 0), -3);
        says("behind it only such ones may come in its record");
        int[] head = {1, 0, 0, 5, 3, 1, 66, 0, 0};
        for (int level = 2; level <= 49; level++) {
            out("level " + level + " behind 66", with(head).item(level, 1, 1), -3);
        }
        out("88 behind 66", with(head).item(88, 0, 0), -3);
        DataLayout x = with(head);
        in("66 behind 66", x.item(66, 0, 0), 4);
        out("5 behind the second one", x.item(5, 1, 1), -3);
        in("1 behind 66", with(head).item(1, 1, 1), 4);
        in("77 behind 66", with(head).item(77, 1, 1), 4);
        says("One of level 88 NAMES values of the latest item ahead of it that is not of level 88,"
                + " which must be of usage 3 .. 8");
        out("of none", new DataLayout().item(88, 0, 0), -3);
        for (int usage = 0; usage <= 11; usage++) {
            int n = usage == 0 || usage > 8 ? 0 : 1;
            boolean may = usage >= 3 && usage <= 8;
            DataLayout y = with(77, 3, 1, 77, usage, n);
            by(may, "of 77, usage " + usage, y.item(88, 0, 0), may ? 3 : -3);
            DataLayout z = with(1, 0, 0, 5, 3, 1, 5, usage, n);
            by(may, "of 5, usage " + usage, z.item(88, 0, 0), may ? 4 : -3);
            by(may, "and once more", z.item(88, 0, 0), may ? 5 : -3);
        }
        DataLayout w = with(77, 3, 1, 77, 3, 1, 88, 0, 0, 88, 0, 0);
        clause(w, 3, RANGE, 4, 4);
        clause(w, 4, RANGE, 4, 4);
        clause(w, 1, VALUE, 4, 0);
        lay(w, 9);
        out("not of the item ahead of that", holds(w, 4), 0);
        clause(w, 2, VALUE, 4, 0);
        lay(w, 9);
        in("of the latest one", holds(w, 3), 1);
        in("with a name between", holds(w, 4), 1);
    }

    // ---- Terms: usages

    private static final int[] LEAST_SIZE = {0, 1, 1, 1, 1, 1, 1, 1, 1, 0, 0, 0};
    private static final int[] GREATEST_SIZE = {0, 200, 100, 18, 18, 18, 18, 18, 18, 0, 0, 0};

    private static int bytesOf(int usage, int n) {
        int[] all = {0, n, 2 * n, n, n, n + 1, n + 1, n / 2 + 1, n <= 4 ? 2 : n <= 9 ? 4 : 8, 4, 8, 4};
        return all[usage];
    }

    private static void termsUsages() {
        String[] texts = {"0 a GROUP (n is 0", "1 text, n bytes (1 .. 200)", "2 national text, 2 n bytes (1 .. 100)",
            "3 with the sign in the last byte, n bytes, 1 .. 18 digits", "4 in the first one, n bytes, 1 .. 18 digits",
            "5 with a sign byte ahead, n + 1 bytes", "6 behind, n + 1 bytes", "7 packed, n / 2 + 1 bytes",
            "8 binary, 2, 4, 8 bytes for up to 4, 9, 18 digits", "9 a short float, 4 bytes (n is 0)",
            "10 a long one, 8 (n is 0)", "11 an index, 4 (n is 0)"};
        for (int usage = 0; usage <= 11; usage++) {
            says(texts[usage]);
            for (int n = -2; n <= 203; n++) {
                askSize(usage, n);
            }
            askSize(usage, 256 + LEAST_SIZE[usage]);
            askSize(usage, 65536 + LEAST_SIZE[usage]);
            askSize(usage, GREATEST);
            askSize(usage, LEAST);
        }
        says("USAGES 0 .. 11");
        for (int usage = -3; usage <= 15; usage++) {
            boolean is = usage >= 0 && usage <= 11;
            int n = is ? LEAST_SIZE[usage] : usage == 12 ? 0 : 1;
            by(is, "usage " + usage, new DataLayout().item(1, usage, n), is ? 1 : -4);
        }
        out("usage 257", new DataLayout().item(1, 257, 1), -4);
        out("the least usage", new DataLayout().item(1, LEAST, 1), -4);
        out("the greatest usage", new DataLayout().item(1, GREATEST, 0), -4);
        says("0 (n is 0; so of levels 66, 88)");
        for (int usage = 0; usage <= 11; usage++) {
            int n = LEAST_SIZE[usage];
            DataLayout x = with(1, 0, 0, 5, 3, 1);
            by(usage == 0, "88 of usage " + usage, x.item(88, usage, n), usage == 0 ? 3 : -4);
            DataLayout y = with(1, 0, 0, 5, 3, 1);
            by(usage == 0, "66 of usage " + usage, y.item(66, usage, n), usage == 0 ? 3 : -4);
        }
        out("88 of size 1", with(77, 3, 1).item(88, 0, 1), -4);
        out("88 of size -1", with(77, 3, 1).item(88, 0, -1), -4);
        out("66 of size 1", with(1, 0, 0).item(66, 0, 1), -4);
        out("66 of size -1", with(1, 0, 0).item(66, 0, -1), -4);
    }

    private static void askSize(int usage, int n) {
        boolean is = n >= LEAST_SIZE[usage] && n <= GREATEST_SIZE[usage];
        by(is, "usage " + usage + " of size " + n, new DataLayout().item(77, usage, n), is ? 1 : -4);
        DataLayout x = with(1, 0, 0);
        by(is, "5 of usage " + usage + " of size " + n, x.item(5, usage, n), is ? 2 : -4);
        if (is && usage > 0) {
            lay(x, bytesOf(usage, n));
            in("size(2)", x.size(2), bytesOf(usage, n));
        }
    }

    // ---- Terms: numbers as bytes

    /** A number with a name for all that an int can be, and one for those below 0. */
    private static DataLayout number(int usage, int n, int value) {
        DataLayout x = with(77, usage, n, 88, 0, 0, 88, 0, 0);
        clause(x, 1, VALUE, value, 0);
        clause(x, 2, RANGE, LEAST, GREATEST);
        clause(x, 3, RANGE, LEAST, -1);
        lay(x, bytesOf(usage, n));
        return x;
    }

    /** Puts each of 256 octets at a place; what the two names then say is 10 for a number, 11 for one below 0. */
    private static void askOctets(int usage, int n, int place, int value) {
        DataLayout x = null;
        for (int octet = 0; octet < 256; octet++) {
            if (octet % 64 == 0) {
                x = number(usage, n, value);
            }
            due("octet", x.octet(place, (byte) octet), 1);
            int want = said(usage, n, place, value, octet);
            String call = "byte " + place + " of usage " + usage + ", " + n + " digits, is " + octet + ": ";
            by(want >= 0, call + "all", holds(x, 2), want >= 0 ? 1 : NO_NUMBER);
            by(want >= 0, call + "below 0", holds(x, 3), want >= 0 ? want : NO_NUMBER);
        }
    }

    /** 1 a number below 0, 0 one that isn't, -1 none; the value has a digit other than 0 in another byte. */
    private static int said(int usage, int n, int place, int value, int octet) {
        int last = bytesOf(usage, n) - 1;
        int negative = value < 0 ? 1 : 0;
        boolean digit = octet >= 48 && octet <= 57;
        if (usage == 7) {
            int high = octet >> 4;
            int low = octet & 15;
            if (place == last) {
                return high > 9 || (low != 12 && low != 13 && low != 15) ? -1 : low == 13 ? 1 : 0;
            }
            boolean unseen = place == 0 && n % 2 == 0;
            return (high > 9 && !unseen) || low > 9 ? -1 : negative;
        }
        if ((usage == 3 && place == last) || (usage == 4 && place == 0)) {
            return digit ? 0 : octet >= 112 && octet <= 121 ? 1 : -1;
        }
        if ((usage == 5 && place == 0) || (usage == 6 && place == last)) {
            return octet == 43 ? 0 : octet == 45 ? 1 : -1;
        }
        return digit ? negative : -1;
    }

    private static void termsNumbers() {
        says("Digits are bytes 48 .. 57, 64 more where the sign is in it and negative");
        for (int usage = 3; usage <= 4; usage++) {
            for (int place = 0; place < 3; place++) {
                askOctets(usage, 3, place, 555);
                askOctets(usage, 3, place, -555);
            }
        }
        bytes(number(3, 3, 0), 0, 48, 48, 48);
        bytes(number(3, 3, 999), 0, 57, 57, 57);
        bytes(number(3, 3, -999), 0, 57, 57, 121);
        bytes(number(3, 3, -10), 0, 48, 49, 112);
        bytes(number(4, 3, 999), 0, 57, 57, 57);
        bytes(number(4, 3, -999), 0, 121, 57, 57);
        bytes(number(4, 3, -1), 0, 112, 48, 49);
        bytes(number(3, 1, -9), 0, 121);
        bytes(number(4, 1, -9), 0, 121);
        says("sign bytes 43 and 45");
        for (int usage = 5; usage <= 6; usage++) {
            for (int place = 0; place < 4; place++) {
                askOctets(usage, 3, place, 555);
                askOctets(usage, 3, place, -555);
            }
        }
        bytes(number(5, 3, 0), 0, 43, 48, 48, 48);
        bytes(number(5, 3, -1), 0, 45, 48, 48, 49);
        bytes(number(6, 3, 0), 0, 48, 48, 48, 43);
        bytes(number(6, 3, -999), 0, 57, 57, 57, 45);
        bytes(number(6, 1, -9), 0, 57, 45);
        says("packed: half bytes, the last one 12, 13 for negative (also 15 is read as no sign),"
                + " one too many ahead is 0 (and isn't looked at)");
        for (int n = 2; n <= 5; n++) {
            for (int place = 0; place < bytesOf(7, n); place++) {
                askOctets(7, n, place, n < 4 ? 55 : 5555);
                askOctets(7, n, place, n < 4 ? -55 : -5555);
            }
        }
        bytes(number(7, 1, 0), 0, 0x0c);
        bytes(number(7, 1, -9), 0, 0x9d);
        bytes(number(7, 2, 99), 0, 0x09, 0x9c);
        bytes(number(7, 3, -999), 0, 0x99, 0x9d);
        bytes(number(7, 18, GREATEST), 0, 0, 0, 0, 0, 0x02, 0x14, 0x74, 0x83, 0x64, 0x7c);
        bytes(number(7, 17, LEAST), 0, 0, 0, 0, 0x02, 0x14, 0x74, 0x83, 0x64, 0x8d);
        binaryNumbers();
    }

    private static void binaryNumbers() {
        says("binary: the highest byte first, a complement of two");
        bytes(number(8, 4, -1), 0, 0xff, 0xff);
        bytes(number(8, 4, 256), 0, 1, 0);
        bytes(number(8, 4, -256), 0, 0xff, 0);
        bytes(number(8, 9, 999999999), 0, 0x3b, 0x9a, 0xc9, 0xff);
        bytes(number(8, 10, LEAST), 0, 0xff, 0xff, 0xff, 0xff, 0x80, 0, 0, 0);
        bytes(number(8, 10, GREATEST), 0, 0, 0, 0, 0, 0x7f, 0xff, 0xff, 0xff);
        askBinary(4, 32767, 0x7f, 0xff);
        askBinary(4, -32768, 0x80, 0);
        askBinary(4, 255, 0, 0xff);
        askBinary(4, -1, 0xff, 0xff);
        askBinary(9, GREATEST, 0x7f, 0xff, 0xff, 0xff);
        askBinary(9, LEAST, 0x80, 0, 0, 0);
        askBinary(18, GREATEST, 0, 0, 0, 0, 0x7f, 0xff, 0xff, 0xff);
        askBinary(18, LEAST, 0xff, 0xff, 0xff, 0xff, 0x80, 0, 0, 0);
        int[][] beyondInt = {{0, 0, 0, 0, 0x80, 0, 0, 0}, {0xff, 0xff, 0xff, 0xff, 0x7f, 0xff, 0xff, 0xff},
            {0, 0, 0, 1, 0, 0, 0, 0}, {0x7f, 0xff, 0xff, 0xff, 0xff, 0xff, 0xff, 0xff}, {0x80, 0, 0, 0, 0, 0, 0, 0}};
        for (int[] octets : beyondInt) {
            DataLayout x = number(8, 18, 0);
            for (int k = 0; k < 8; k++) {
                due("octet", x.octet(k, (byte) octets[k]), 1);
            }
            out("a number beyond all ranges", holds(x, 2), 0);
        }
    }

    private static void askBinary(int n, int value, int... octets) {
        DataLayout x = with(77, 8, n, 88, 0, 0, 88, 0, 0, 88, 0, 0);
        clause(x, 2, RANGE, value, value);
        clause(x, 3, RANGE, LEAST, value == LEAST ? LEAST : value - 1);
        clause(x, 4, RANGE, value == GREATEST ? GREATEST : value + 1, GREATEST);
        lay(x, octets.length);
        for (int k = 0; k < octets.length; k++) {
            due("octet", x.octet(k, (byte) octets[k]), 1);
        }
        in("the number is " + value, holds(x, 2), 1);
        out("it isn't less than " + value, holds(x, 3), value == LEAST ? 1 : 0);
        out("it isn't greater than " + value, holds(x, 4), value == GREATEST ? 1 : 0);
    }

    // ---- Terms: clauses

    private static void termsClauses() {
        says("0 a TABLE of a entries (1 .. 999)");
        int[] entries = {LEAST, -1, 0, 1, 2, 998, 999, 1000, 1024 + 1, 65536 + 1, GREATEST};
        for (int a : entries) {
            boolean is = a >= 1 && a <= 999;
            DataLayout x = with(1, 0, 0, 5, 1, 1);
            by(is, "a table of " + a, x.clause(2, TABLE, a, -5), is ? 1 : -4);
            lay(x, is ? a : 1);
            by(is, "count(2)", x.count(2), is ? 1 : 0);
        }
        says("1 a table of a .. b entries (0 <= a <= b, b 1 .. 999)");
        int[][] pairs = {{0, 1}, {1, 1}, {0, 999}, {999, 999}, {998, 999}, {-1, 1}, {-1, -1}, {0, 0}, {2, 1},
            {0, 1000}, {999, 1000}, {1000, 1000}, {1000, 999}, {LEAST, 5}, {0, GREATEST}, {GREATEST, GREATEST},
            {5, LEAST}, {GREATEST, LEAST}};
        for (int[] p : pairs) {
            boolean is = p[0] >= 0 && p[0] <= p[1] && p[1] >= 1 && p[1] <= 999;
            DataLayout x = with(1, 0, 0, 5, 1, 1);
            by(is, "a table of " + p[0] + " .. " + p[1], x.clause(2, DEPENDS, p[0], p[1]), is ? 1 : -4);
            lay(x, is ? p[1] : 1);
        }
        says("which DEPENDS: b now, at first");
        DataLayout y = with(1, 0, 0, 5, 1, 3);
        clause(y, 2, DEPENDS, 2, 7);
        lay(y, 21);
        in("size(1)", y.size(1), 21);
        in("the seventh", subscript(y, 2, 7, 0, 0), 18);
        out("the eighth", subscript(y, 2, 8, 0, 0), -6);
        due("depending", y.depending(2, 3), 1);
        lay(y, 21);
        out("only at first, not when it is laid out again", y.size(1), 9);
        says("2 SYNCHRONISED (usages 8 .. 11)");
        for (int usage = 0; usage <= 11; usage++) {
            DataLayout x = with(1, 0, 0, 5, usage, LEAST_SIZE[usage], 77, usage, LEAST_SIZE[usage]);
            by(usage >= 8, "usage " + usage, x.clause(2, SYNC, 0, 0), usage >= 8 ? 1 : 0);
            by(usage >= 8, "77 of usage " + usage, x.clause(3, SYNC, LEAST, GREATEST), usage >= 8 ? 1 : 0);
        }
        DataLayout z = with(1, 0, 0, 5, 3, 1, 88, 0, 0, 66, 0, 0);
        out("a name", z.clause(3, SYNC, 0, 0), 0);
        out("a part", z.clause(4, SYNC, 0, 0), 0);
        values();
        ranges();
        parts();
    }

    private static void values() {
        says("3 a VALUE a (usages 3 .. 8");
        for (int usage = 0; usage <= 11; usage++) {
            boolean may = usage >= 3 && usage <= 8;
            DataLayout x = with(1, 0, 0, 5, usage, LEAST_SIZE[usage]);
            by(may, "usage " + usage, x.clause(2, VALUE, 0, 0), may ? 1 : 0);
            out("a group", x.clause(1, VALUE, 0, 0), 0);
        }
        DataLayout w = with(1, 0, 0, 5, 3, 1, 88, 0, 0, 66, 0, 0);
        out("a name", w.clause(3, VALUE, 0, 0), 0);
        out("a part", w.clause(4, VALUE, 0, 0), 0);
        says("not of more digits)");
        for (int usage = 3; usage <= 8; usage++) {
            long above = 1;
            for (int n = 1; n <= 18; n++) {
                above *= 10;
                if (n <= 9) {
                    out("more digits", with(77, usage, n).clause(1, VALUE, (int) above, 0), 0);
                    out("more digits, negative", with(77, usage, n).clause(1, VALUE, (int) -above, 0), 0);
                    out("the greatest", with(77, usage, n).clause(1, VALUE, GREATEST, 0), 0);
                    out("the least", with(77, usage, n).clause(1, VALUE, LEAST, 0), 0);
                }
                int most = (int) Math.min(above - 1, GREATEST);
                askValue(usage, n, most);
                askValue(usage, n, -most);
                if (n >= 10) {
                    askValue(usage, n, LEAST);
                }
                askValue(usage, n, 0);
                askValue(usage, n, 1);
                askValue(usage, n, -1);
            }
        }
    }

    private static void askValue(int usage, int n, int value) {
        DataLayout x = with(77, usage, n, 88, 0, 0);
        in("value " + value + " in " + n + " digits", x.clause(1, VALUE, value, 0), 1);
        clause(x, 2, RANGE, value, value);
        lay(x, bytesOf(usage, n));
        in("the value " + value, holds(x, 2), 1);
    }

    private static void ranges() {
        says("4 a RANGE a .. b (88; a <= b; at most 8)");
        DataLayout x = with(1, 0, 0, 5, 3, 2, 88, 0, 0, 88, 0, 0, 5, 1, 1, 66, 0, 0, 77, 3, 1);
        int[] none = {1, 2, 5, 6, 7};
        for (int item : none) {
            out("a range of item " + item, x.clause(item, RANGE, 1, 1), 0);
        }
        int[][] turned = {{1, 0}, {0, -1}, {GREATEST, LEAST}, {GREATEST, GREATEST - 1}, {LEAST + 1, LEAST}};
        for (int[] p : turned) {
            out("turned", x.clause(3, RANGE, p[0], p[1]), -4);
            out("turned, of a text", x.clause(5, RANGE, p[0], p[1]), -4);
        }
        int[][] right = {{0, 0}, {LEAST, LEAST}, {GREATEST, GREATEST}, {LEAST, -50}, {60, GREATEST}, {20, 21}, {20, 21},
            {30, 30}};
        for (int[] p : right) {
            in("range", x.clause(3, RANGE, p[0], p[1]), 1);
        }
        out("a ninth one", x.clause(3, RANGE, 40, 40), 0);
        out("a ninth one, turned", x.clause(3, RANGE, 41, 40), -4);
        in("another name has its own", x.clause(4, RANGE, 40, 40), 1);
        clause(x, 6, PART, 2, 2);
        lay(x, 9);
        int[][] held = {{0, 1}, {1, 0}, {19, 0}, {20, 1}, {21, 1}, {22, 0}, {29, 0}, {30, 1}, {31, 0}, {40, 0},
            {59, 0}, {60, 1}, {99, 1}};
        for (int[] p : held) {
            due("octets", x.octet(0, (byte) (48 + p[0] / 10)) + x.octet(1, (byte) (48 + p[0] % 10)), 2);
            by(p[1] == 1, p[0] + " is held", holds(x, 3), p[1]);
        }
    }

    private static void parts() {
        says("5 renames items a .. b (66; of levels 2 .. 49 of its record");
        int[] all = {1, 0, 0, 2, 1, 1, 66, 0, 0, 1, 0, 0, 2, 0, 0, 49, 3, 1, 88, 0, 0, 49, 1, 2, 2, 1, 3, 66, 0, 0,
            66, 0, 0, 77, 1, 1, 1, 0, 0, 2, 1, 1};
        for (int a = 1; a <= 14; a++) {
            boolean may = a == 5 || a == 6 || a == 8 || a == 9;
            by(may, "from " + a + " to itself", with(all).clause(10, PART, a, a), may ? 1 : 0);
            by(may, "from " + a + " to the last", with(all).clause(10, PART, a, 9), may ? 1 : 0);
            boolean ends = a == 6 || a == 8 || a == 9;
            by(ends, "from 6 to " + a, with(all).clause(10, PART, 6, a), ends ? 1 : 0);
            if (a != 3 && a != 10 && a != 11) {
                out("item " + a + " is no 66", with(all).clause(a, PART, 6, 8), 0);
            }
        }
        out("of another record", with(all).clause(3, PART, 6, 8), 0);
        in("of its own one", with(all).clause(3, PART, 2, 2), 1);
        says("b not ahead of a, nor below it)");
        int[] tree = {1, 0, 0, 2, 1, 1, 2, 0, 0, 3, 0, 0, 4, 1, 2, 4, 1, 3, 3, 1, 4, 2, 1, 5, 66, 0, 0};
        int[] place = {0, 0, 0, 1, 1, 1, 3, 6, 10};
        int[] end = {0, 0, 1, 10, 6, 3, 6, 10, 15};
        int[] lastBelow = {0, 0, 2, 7, 6, 5, 6, 7, 8};
        for (int a = 2; a <= 8; a++) {
            for (int b = 2; b <= 8; b++) {
                boolean may = b == a || b > lastBelow[a];
                DataLayout x = with(tree);
                by(may, "from " + a + " to " + b, x.clause(9, PART, a, b), may ? 1 : 0);
                if (may) {
                    lay(x, 15);
                    in("place", x.place(9), place[a]);
                    in("size", x.size(9), end[b] - place[a]);
                }
            }
        }
    }

    // ---- Terms: tables

    private static void termsTables() {
        says("Tables are of levels 2 .. 49");
        for (int level = 2; level <= 49; level++) {
            in("level " + level, with(1, 0, 0, level, 1, 1).clause(2, TABLE, 2, 0), 1);
            in("level " + level + ", depends", with(1, 0, 0, level, 1, 1).clause(2, DEPENDS, 0, 2), 1);
        }
        DataLayout x = with(1, 0, 0, 2, 3, 1, 88, 0, 0, 66, 0, 0, 77, 1, 1, 1, 1, 1);
        int[] none = {1, 3, 4, 5, 6};
        for (int item : none) {
            out("item " + item, x.clause(item, TABLE, 2, 0), 0);
            out("item " + item + ", depends", x.clause(item, DEPENDS, 0, 2), 0);
        }
        threeTables();
        says("one that depends has no table around it");
        int[] chain = {1, 0, 0, 2, 0, 0, 3, 0, 0, 4, 0, 0, 5, 1, 1};
        for (int outer = 2; outer <= 4; outer++) {
            for (int inner = outer + 1; inner <= 5; inner++) {
                DataLayout a = with(chain);
                clause(a, outer, TABLE, 2, 0);
                out("one that depends in a table", a.clause(inner, DEPENDS, 0, 2), 0);
                in("a table in a table", a.clause(inner, TABLE, 2, 0), 1);
                DataLayout b = with(chain);
                clause(b, inner, DEPENDS, 0, 2);
                out("a table around one that depends", b.clause(outer, TABLE, 2, 0), 0);
                out("one that depends around another one", b.clause(outer, DEPENDS, 0, 2), 0);
                DataLayout c = with(chain);
                clause(c, outer, DEPENDS, 0, 2);
                out("one that depends in another one", c.clause(inner, DEPENDS, 0, 2), 0);
                in("a table in one that depends", c.clause(inner, TABLE, 2, 0), 1);
                lay(c, 4);
                DataLayout d = with(chain);
                clause(d, inner, TABLE, 2, 0);
                in("one that depends around a table", d.clause(outer, DEPENDS, 0, 2), 1);
                lay(d, 4);
            }
        }
        for (int order = 0; order < 2; order++) {
            DataLayout beside = with(1, 0, 0, 2, 1, 1, 2, 1, 1);
            in("beside one another", beside.clause(2 + order, order, 1, 2), 1);
            in("in any order", beside.clause(3 - order, 1 - order, 1, 2), 1);
            lay(beside, 3);
        }
        says("An item that others redefine is no table");
        DataLayout y = with(1, 0, 0, 2, 1, 2, 2, 1, 1, 2, 1, 2);
        redefine(y, 3, 2);
        out("it becomes a table", y.clause(2, TABLE, 1, 0), 0);
        out("it becomes one that depends", y.clause(2, DEPENDS, 0, 1), 0);
        in("the one that redefines it", y.clause(3, TABLE, 2, 0), 1);
        in("one beside them", y.clause(4, DEPENDS, 0, 1), 1);
        DataLayout z = with(1, 0, 0, 2, 1, 2, 2, 1, 2, 2, 1, 1);
        clause(z, 2, TABLE, 1, 0);
        out("a table is redefined", z.redefines(3, 2), 0);
        in("another one is", z.redefines(4, 3), 1);
        out("it becomes a table", z.clause(3, TABLE, 1, 0), 0);
        DataLayout deep = with(1, 0, 0, 2, 0, 0, 3, 1, 2, 2, 1, 2);
        redefine(deep, 4, 2);
        in("a table below one that others redefine", deep.clause(3, TABLE, 1, 0), 1);
    }

    private static void threeTables() {
        says("at most three around one another");
        int[] chain = {1, 0, 0, 2, 0, 0, 3, 0, 0, 4, 0, 0, 5, 0, 0, 6, 1, 1};
        for (int order = 0; order < 5 * 5 * 5 * 5; order++) {
            int[] t = {2 + order % 5, 2 + order / 5 % 5, 2 + order / 25 % 5, 2 + order / 125 % 5};
            if (t[0] == t[1] || t[0] == t[2] || t[0] == t[3] || t[1] == t[2] || t[1] == t[3] || t[2] == t[3]) {
                continue;
            }
            DataLayout x = with(chain);
            for (int k = 0; k < 3; k++) {
                in("table " + t[k], x.clause(t[k], TABLE, 2, 0), 1);
            }
            out("a fourth one at " + t[3], x.clause(t[3], TABLE, 2, 0), 0);
            out("count(2)", x.count(2), 3);
            lay(x, 8);
        }
        DataLayout x = with(1, 0, 0, 2, 0, 0, 3, 0, 0, 4, 1, 1, 4, 1, 1, 3, 0, 0, 4, 1, 1, 2, 1, 1);
        int[] tables = {2, 3, 4, 5, 6, 7, 8};
        for (int table : tables) {
            in("beside one another", x.clause(table, TABLE, 2, 0), 1);
        }
        lay(x, 2 * (2 * 4 + 2 * 2) + 2);
        DataLayout y = with(1, 0, 0, 2, 0, 0, 3, 0, 0, 4, 0, 0, 5, 1, 1, 4, 1, 1);
        clause(y, 5, TABLE, 2, 0);
        clause(y, 4, TABLE, 2, 0);
        clause(y, 3, TABLE, 2, 0);
        out("around three of them", y.clause(2, TABLE, 2, 0), 0);
        out("around three of them, depends", y.clause(2, DEPENDS, 2, 2), 0);
        in("beside two of them", y.clause(6, TABLE, 2, 0), 1);
        DataLayout z = with(1, 0, 0, 2, 1, 1, 2, 0, 0, 3, 0, 0, 4, 1, 1, 2, 1, 1);
        clause(z, 3, TABLE, 2, 0);
        clause(z, 4, TABLE, 2, 0);
        clause(z, 5, TABLE, 2, 0);
        in("ahead of three of them", z.clause(2, TABLE, 2, 0), 1);
        in("behind three of them", z.clause(6, TABLE, 2, 0), 1);
        lay(z, 12);
    }

    // ---- Terms: redefining

    private static void termsRedefining() {
        says("An item REDEFINES another one ahead of it");
        int[] four = {1, 0, 0, 5, 1, 2, 5, 1, 2, 5, 1, 2};
        in("the one just ahead", with(four).redefines(3, 2), 1);
        out("itself", with(four).redefines(3, 3), 0);
        out("the one just behind", with(four).redefines(3, 4), 0);
        says("of the same level, 1 .. 49");
        for (int level = 2; level <= 49; level++) {
            in("level " + level, with(1, 0, 0, level, 1, 1, level, 1, 1).redefines(3, 2), 1);
        }
        in("level 1", with(1, 1, 1, 1, 1, 1).redefines(2, 1), 1);
        out("level 77", with(77, 1, 1, 77, 1, 1).redefines(2, 1), 0);
        out("77 over 1", with(1, 1, 1, 77, 1, 1).redefines(2, 1), 0);
        out("1 over 77", with(77, 1, 1, 1, 1, 1).redefines(2, 1), 0);
        out("level 66", with(1, 0, 0, 2, 1, 1, 66, 0, 0, 66, 0, 0).redefines(4, 3), 0);
        out("level 88", with(77, 3, 1, 88, 0, 0, 88, 0, 0).redefines(3, 2), 0);
        out("88 over its item", with(77, 3, 1, 88, 0, 0).redefines(2, 1), 0);
        out("another level", with(1, 0, 0, 5, 0, 0, 6, 1, 1, 5, 1, 1).redefines(4, 3), 0);
        out("another level, turned", with(1, 0, 0, 5, 1, 1, 5, 0, 0, 6, 1, 1).redefines(4, 2), 0);
        out("the one around it", with(1, 0, 0, 5, 0, 0, 6, 1, 1).redefines(3, 2), 0);
        says("below the same one (level 1: below none)");
        int[] two = {1, 0, 0, 5, 0, 0, 6, 1, 2, 6, 1, 2, 5, 0, 0, 6, 1, 2, 6, 1, 2};
        in("below one", with(two).redefines(4, 3), 1);
        in("below the other", with(two).redefines(7, 6), 1);
        out("below another one", with(two).redefines(6, 4), 0);
        out("below another record", with(1, 0, 0, 5, 1, 1, 1, 0, 0, 5, 1, 1).redefines(4, 2), 0);
        in("the groups", with(two).redefines(5, 2), 1);
        says("which redefines none");
        DataLayout x = with(1, 0, 0, 5, 1, 2, 5, 1, 2, 5, 1, 2, 5, 1, 2);
        redefine(x, 3, 2);
        out("one that redefines", x.redefines(4, 3), 0);
        in("the one that is redefined", x.redefines(4, 2), 1);
        out("one that redefines, again", x.redefines(5, 4), 0);
        in("and once more", x.redefines(5, 2), 1);
        redefiningTables();
        redefiningBetween();
        redefiningAlone();
        redefiningValues();
        redefiningLengths();
    }

    private static void redefiningTables() {
        says("and is no table");
        for (int kind = TABLE; kind <= DEPENDS; kind++) {
            DataLayout x = with(1, 0, 0, 5, 1, 2, 5, 1, 2);
            clause(x, 2, kind, 1, 1);
            out("a table", x.redefines(3, 2), 0);
            DataLayout y = with(1, 0, 0, 5, 1, 2, 5, 1, 2);
            clause(y, 3, kind, 1, 1);
            in("by a table", y.redefines(3, 2), 1);
        }
        DataLayout z = with(1, 0, 0, 5, 0, 0, 6, 1, 1, 5, 1, 2);
        clause(z, 3, TABLE, 2, 0);
        in("one with a table below it", z.redefines(4, 2), 1);
        DataLayout w = with(1, 0, 0, 5, 0, 0, 6, 1, 2, 6, 1, 2);
        clause(w, 2, TABLE, 2, 0);
        in("one with a table around it", w.redefines(4, 3), 1);
    }

    private static void redefiningBetween() {
        says("all between them of that level there redefine it, too");
        DataLayout x = with(1, 0, 0, 5, 1, 2, 5, 1, 2, 5, 1, 2, 5, 1, 2);
        out("one between redefines none", x.redefines(4, 2), 0);
        redefine(x, 3, 2);
        out("one of two between redefines none", x.redefines(5, 2), 0);
        in("all between redefine it", x.redefines(4, 2), 1);
        in("and again", x.redefines(5, 2), 1);
        DataLayout y = with(1, 0, 0, 5, 1, 2, 5, 1, 2, 5, 1, 2, 5, 1, 2);
        redefine(y, 4, 3);
        out("those between redefine another one", y.redefines(5, 2), 0);
        in("the other one", y.redefines(5, 3), 1);
        DataLayout z = with(1, 0, 0, 5, 0, 0, 6, 3, 1, 88, 0, 0, 6, 1, 1, 5, 1, 1);
        in("others between, but not of that level", z.redefines(6, 2), 1);
        DataLayout w = with(1, 0, 0, 5, 0, 0, 6, 0, 0, 7, 1, 1, 5, 0, 0, 6, 1, 1);
        in("of that level, but elsewhere", w.redefines(5, 2), 1);
        DataLayout v = with(1, 1, 1, 1, 1, 1, 1, 1, 1);
        out("a record between", v.redefines(3, 1), 0);
        redefine(v, 2, 1);
        in("a record between that redefines it", v.redefines(3, 1), 1);
        DataLayout u = with(1, 0, 0, 5, 1, 1, 66, 0, 0, 77, 1, 1, 1, 1, 1);
        in("between are others than records of level 1", u.redefines(5, 1), 1);
    }

    private static void redefiningAlone() {
        says("neither is external");
        DataLayout x = with(1, 1, 1, 1, 1, 1, 1, 1, 1, 1, 1, 1);
        due("external", x.external(1, 0), 1);
        out("an external one is redefined", x.redefines(2, 1), 0);
        due("external", x.external(4, 99), 1);
        out("an external one redefines", x.redefines(4, 3), 0);
        in("neither of them is", x.redefines(3, 2), 1);
        out("one that redefines becomes external", x.external(3, 5), 0);
        out("one that is redefined becomes external", x.external(2, 5), 0);
        says("and no one redefines it itself");
        DataLayout y = with(1, 0, 0, 5, 1, 1, 5, 1, 1, 5, 1, 1, 5, 1, 1);
        redefine(y, 4, 3);
        out("it is redefined", y.redefines(3, 2), 0);
        in("one behind it", y.redefines(5, 3), 1);
        DataLayout z = with(1, 1, 1, 1, 1, 1, 1, 1, 1);
        redefine(z, 3, 2);
        out("a record that is redefined", z.redefines(2, 1), 0);
        says("or does already");
        DataLayout w = with(1, 0, 0, 5, 1, 1, 5, 1, 1);
        in("at first", w.redefines(3, 2), 1);
        out("again", w.redefines(3, 2), 0);
    }

    private static void redefiningValues() {
        says("It has no values, nor have those below it");
        int[] two = {1, 0, 0, 5, 0, 0, 6, 3, 1, 5, 0, 0, 6, 0, 0, 7, 3, 1, 88, 0, 0, 5, 3, 1};
        DataLayout a = with(two);
        clause(a, 6, VALUE, 0, 0);
        out("one deep below has a value", a.redefines(4, 2), 0);
        DataLayout b = with(two);
        clause(b, 3, VALUE, 1, 0);
        clause(b, 8, VALUE, 1, 0);
        clause(b, 7, RANGE, 1, 1);
        in("only others have values", b.redefines(4, 2), 1);
        out("one deep below gets a value", b.clause(6, VALUE, 1, 0), 0);
        out("one with a value", b.redefines(8, 2), 0);
        lay(b, 2);
        in("a name of the redefining one", holds(b, 7), 1);
        DataLayout c = with(two);
        redefine(c, 4, 2);
        redefine(c, 8, 2);
        out("it gets a value", c.clause(8, VALUE, 1, 0), 0);
        in("the other one gets a value", c.clause(3, VALUE, 1, 0), 1);
        in("a name of it gets a range", c.clause(7, RANGE, 1, 1), 1);
        DataLayout d = with(1, 3, 1, 1, 0, 0, 2, 3, 1);
        redefine(d, 2, 1);
        out("below a record that redefines", d.clause(3, VALUE, 1, 0), 0);
        in("the record that is redefined", d.clause(1, VALUE, 1, 0), 1);
    }

    private static void redefiningLengths() {
        says("it begins where the other one does, and isn't longer, but of level 1");
        for (int n = 1; n <= 12; n++) {
            DataLayout x = with(1, 0, 0, 5, 1, 3, 5, 1, 6, 5, 1, n, 5, 1, 1);
            redefine(x, 4, 3);
            by(n <= 6, "of " + n + " bytes over 6", x.lay(), n <= 6 ? 10 : -14);
            if (n <= 6) {
                in("its place", x.place(4), 3);
                in("its size", x.size(4), n);
                in("the one behind it", x.place(5), 9);
            }
            DataLayout y = with(1, 0, 0, 5, 1, 6, 5, 1, 1, 5, 1, 1);
            redefine(y, 3, 2);
            clause(y, 3, TABLE, n, 0);
            by(n <= 6, "a table of " + n + " over 6", y.lay(), n <= 6 ? 7 : -13);
            DataLayout z = with(1, 0, 0, 5, 1, 6, 5, 0, 0, 6, 1, 1);
            redefine(z, 3, 2);
            clause(z, 4, DEPENDS, 0, n);
            due("depending", z.depending(4, 0), 1);
            by(n <= 6, "with up to " + n + " over 6", z.lay(), n <= 6 ? 6 : -13);
            DataLayout w = with(1, 1, 6, 1, 1, n, 77, 1, 1);
            redefine(w, 2, 1);
            in("a record of " + n + " over 6", w.lay(), n <= 8 ? 9 : 17);
            in("its place", w.place(2), 0);
            in("its size", w.size(2), n);
            in("the size of the other one", w.size(1), 6);
        }
        for (int ahead = 1; ahead <= 9; ahead++) {
            DataLayout x = with(1, 0, 0, 5, 1, ahead, 5, 1, 8, 5, 8, 9);
            redefine(x, 4, 3);
            clause(x, 4, SYNC, 0, 0);
            boolean may = ahead % 4 == 0;
            by(may, "a synchronised one behind " + ahead, x.lay(), may ? ahead + 8 : -14);
            DataLayout y = with(1, 0, 0, 5, 1, ahead, 5, 1, 8, 5, 0, 0, 6, 1, 1, 6, 8, 4);
            redefine(y, 4, 3);
            clause(y, 6, SYNC, 0, 0);
            clause(y, 4, TABLE, 2, 0);
            boolean even = ahead % 2 == 0;
            by(even, "a table with one in it behind " + ahead, y.lay(), even ? ahead + 8 : -14);
        }
        DataLayout x = with(1, 0, 0, 5, 1, 7, 5, 0, 0, 6, 8, 4, 6, 1, 1);
        redefine(x, 3, 2);
        clause(x, 4, SYNC, 0, 0);
        clause(x, 3, TABLE, 2, 0);
        out("two entries that take 4 each over 7", x.lay(), -13);
        DataLayout y = with(1, 0, 0, 2, 1, 4, 2, 0, 0, 3, 1, 2, 3, 1, 5);
        redefine(y, 3, 2);
        redefine(y, 5, 4);
        out("too long is the inner one, not the one around it", y.lay(), -15);
    }

    // ---- Terms: laying out

    private static void termsLayingOut() {
        says("a record begins at the next multiple of 8 behind all ahead of it");
        for (int n = 1; n <= 33; n++) {
            for (int level = 1; level <= 77; level += 76) {
                DataLayout x = with(level, 1, n, 78 - level, 1, 3);
                lay(x, up(n, 8) + 3);
                by(n % 8 == 0, "behind " + n, x.place(2), up(n, 8));
            }
        }
        says("(one that redefines where the other one does; an EXTERNAL one where the first one of its name does)");
        for (int n = 1; n <= 20; n++) {
            DataLayout x = with(1, 1, 1, 1, 1, 5, 1, 1, n, 1, 1, 1);
            redefine(x, 3, 2);
            lay(x, 8 + up(Math.max(n, 5), 8) + 1);
            in("where the other one does", x.place(3), 8);
            out("the next one", x.place(4), 8 + up(Math.max(n, 5), 8));
            DataLayout y = with(1, 1, 1, 1, 1, n, 1, 1, 1, 1, 1, n, 1, 1, n);
            due("external", y.external(4, 7) + y.external(2, 7) + y.external(5, 8), 3);
            lay(y, 16 + up(n, 8) + n);
            in("the first one of its name", y.place(2), 8);
            in("where the first one does", y.place(4), 8);
            out("one of another name", y.place(5), 16 + up(n, 8));
        }
        DataLayout z = with(1, 1, 1, 1, 1, 1, 1, 1, 1);
        due("external", z.external(3, 0) + z.external(1, 0), 2);
        lay(z, 9);
        in("by the order of items, not of calls", z.place(3), 0);
        out("one that isn't external", z.place(2), 8);
        says("a synchronised one at the next multiple of its bytes");
        int[][] kinds = {{8, 1}, {8, 4}, {8, 5}, {8, 9}, {8, 10}, {8, 18}, {9, 0}, {10, 0}, {11, 0}};
        for (int[] kind : kinds) {
            for (int ahead = 1; ahead <= 17; ahead++) {
                int size = bytesOf(kind[0], kind[1]);
                DataLayout x = with(1, 0, 0, 5, 1, ahead, 5, kind[0], kind[1], 5, 1, 1);
                lay(x, ahead + size + 1);
                out("not synchronised", x.place(3), ahead);
                clause(x, 3, SYNC, 0, 0);
                lay(x, up(ahead, size) + size + 1);
                in("synchronised", x.place(3), up(ahead, size));
                in("its slack", x.slack(3), up(ahead, size) - ahead);
                out("the one behind it", x.place(4), up(ahead, size) + size);
            }
        }
        tablesAligned();
        groupEnds();
    }

    private static void tablesAligned() {
        says("a table with such ones in it (or which is one) at the next multiple of the greatest of these,"
                + " and its entries take a multiple of that");
        int[] digits = {4, 9, 18};
        for (int n : digits) {
            int unit = bytesOf(8, n);
            for (int ahead = 1; ahead <= 9; ahead++) {
                for (int tail = 1; tail <= 9; tail++) {
                    DataLayout x = with(1, 0, 0, 5, 1, ahead, 5, 0, 0, 6, 8, n, 6, 1, tail, 5, 1, 1);
                    clause(x, 3, TABLE, 3, 0);
                    lay(x, ahead + 3 * (unit + tail) + 1);
                    out("none is synchronised", subscript(x, 5, 2, 0, 0), ahead + unit + tail + unit);
                    clause(x, 4, SYNC, 0, 0);
                    int place = up(ahead, unit);
                    int stride = up(unit + tail, unit);
                    lay(x, place + 3 * stride + 1);
                    in("the table", x.place(3), place);
                    in("its slack", x.slack(3), place - ahead);
                    in("its size", x.size(3), unit + tail);
                    in("second entry", subscript(x, 3, 2, 0, 0), place + stride);
                    in("third entry", subscript(x, 5, 3, 0, 0), place + 2 * stride + unit);
                    in("behind it", x.place(6), place + 3 * stride);
                }
                DataLayout y = with(1, 0, 0, 5, 1, ahead, 5, 8, n);
                clause(y, 3, SYNC, 0, 0);
                clause(y, 3, TABLE, 3, 0);
                lay(y, up(ahead, unit) + 3 * unit);
                in("a table which is one", y.place(3), up(ahead, unit));
                in("its third entry", subscript(y, 3, 3, 0, 0), up(ahead, unit) + 2 * unit);
            }
        }
        for (int order = 0; order < 2; order++) {
            int first = order == 0 ? 4 : 18;
            DataLayout x = with(1, 0, 0, 5, 1, 1, 5, 0, 0, 6, 1, 1, 6, 0, 0, 7, 8, first, 7, 8, 22 - first, 7, 9, 0);
            clause(x, 3, TABLE, 2, 0);
            clause(x, 6, SYNC, 0, 0);
            clause(x, 7, SYNC, 0, 0);
            clause(x, 8, SYNC, 0, 0);
            lay(x, 8 + 2 * 24);
            in("the greatest, deep in it", x.place(3), 8);
            in("the entries take", subscript(x, 3, 2, 0, 0), 32);
        }
        DataLayout g = with(1, 0, 0, 5, 1, 1, 5, 0, 0, 6, 8, 9, 5, 0, 0, 6, 8, 9);
        clause(g, 4, SYNC, 0, 0);
        lay(g, 12);
        out("a group that is no table lies just behind", g.place(3), 1);
        in("the synchronised one in it", g.place(4), 4);
        due("table", g.clause(3, TABLE, 1, 0), 1);
        lay(g, 12);
        in("a table of one entry", g.place(3), 4);
    }

    private static void groupEnds() {
        says("A group ends where the last byte of what is below it ends, redefining ones aside"
                + " (level 1: each record by itself), with what the entries of tables below it take");
        DataLayout x = with(1, 0, 0, 5, 0, 0, 6, 8, 4, 6, 1, 1, 5, 1, 1);
        clause(x, 3, SYNC, 0, 0);
        lay(x, 4);
        in("no more than the last byte", x.size(2), 3);
        clause(x, 2, TABLE, 2, 0);
        lay(x, 9);
        in("an entry ends so, too", x.size(2), 3);
        in("all around it has what entries take", x.size(1), 9);
        DataLayout y = with(1, 0, 0, 5, 0, 0, 6, 0, 0, 7, 8, 4, 7, 1, 1);
        clause(y, 4, SYNC, 0, 0);
        clause(y, 3, TABLE, 2, 0);
        lay(y, 8);
        in("up to the end of all entries", y.size(2), 8);
        out("an entry is shorter", y.size(3), 3);
        clause(y, 2, TABLE, 2, 0);
        lay(y, 16);
        in("an entry with all of an inner table", y.size(2), 8);
        DataLayout z = with(1, 0, 0, 5, 0, 0, 6, 1, 4, 6, 1, 2, 1, 0, 0, 2, 1, 9);
        redefine(z, 4, 3);
        redefine(z, 5, 1);
        lay(z, 9);
        out("one that redefines is aside", z.size(2), 4);
        in("each record by itself", z.size(5), 9);
        in("each record by itself", z.size(1), 4);
    }

    // ---- Terms: the first bytes

    private static void termsBytes() {
        says("Bytes are then: texts 32, national 0 and 32 in turn, numbers 0 or their values, in all entries,"
                + " floats, indexes and all else 0");
        DataLayout x = with(1, 0, 0, 2, 1, 2, 2, 2, 2, 2, 3, 2, 2, 4, 2, 2, 5, 1, 2, 6, 1, 2, 7, 2, 2, 8, 4, 2, 9, 0,
                2, 10, 0, 2, 11, 0);
        lay(x, 34);
        bytes(x, 0, 32, 32, 0, 32, 0, 32, 48, 48, 48, 48, 43, 48, 48, 43, 0, 12, 0, 0, 0, 0, 0, 0, 0, 0, 0, 0, 0, 0, 0,
                0, 0, 0, 0, 0);
        out("no byte more", at(x, 34), OUT_OF_BYTES);
        DataLayout y = with(1, 0, 0, 2, 1, 1, 2, 0, 0, 3, 8, 4, 3, 0, 0, 4, 3, 1, 4, 2, 1, 2, 1, 1, 77, 5, 1);
        clause(y, 3, TABLE, 2, 0);
        clause(y, 5, TABLE, 3, 0);
        clause(y, 4, SYNC, 0, 0);
        clause(y, 4, VALUE, -2, 0);
        clause(y, 6, VALUE, -3, 0);
        lay(y, 34);
        int[] want = {32, 0, 255, 254, 115, 0, 32, 115, 0, 32, 115, 0, 32, 0, 255, 254, 115, 0, 32, 115, 0, 32, 115, 0,
            32, 0, 32, 0, 0, 0, 0, 0, 43, 48};
        bytes(y, 0, want);
        DataLayout z = with(1, 0, 0, 5, 0, 0, 6, 7, 1, 6, 1, 1);
        clause(z, 2, DEPENDS, 0, 3);
        clause(z, 3, VALUE, -4, 0);
        due("depending", z.depending(2, 0), 1);
        lay(z, 6);
        bytes(z, 0, 0x4d, 32, 0x4d, 32, 0x4d, 32);
        out("no byte more", at(z, 6), OUT_OF_BYTES);
        DataLayout again = with(1, 0, 0, 2, 1, 1, 2, 8, 4, 2, 9, 0, 2, 3, 1, 77, 2, 1, 1, 1, 1);
        clause(again, 3, SYNC, 0, 0);
        for (int turn = 0; turn < 3; turn++) {
            lay(again, 25);
            bytes(again, 0, 32, 0, 0, 0, 0, 0, 0, 0, 48, 0, 0, 0, 0, 0, 0, 0, 0, 32, 0, 0, 0, 0, 0, 0, 32);
            for (int i = 0; i < 25; i++) {
                due("octet", again.octet(i, (byte) (i + 60)), 1);
                out("before it is laid out again", at(again, i), i + 60);
            }
        }
        DataLayout first = with(77, 9, 0);
        lay(first, 4);
        for (int i = 0; i < 4; i++) {
            due("octet", first.octet(i, (byte) 1), 1);
        }
        lay(first, 4);
        bytes(first, 0, 0, 0, 0, 0);
        says("those of redefining items are what they are by the others, and external ones by the first of their name;"
                + " bytes that none of the others has are 0");
        DataLayout w = with(1, 0, 0, 2, 7, 3, 2, 1, 2, 2, 3, 1, 1, 1, 6, 1, 3, 4);
        redefine(w, 3, 2);
        redefine(w, 5, 1);
        redefine(w, 6, 1);
        lay(w, 6);
        bytes(w, 0, 0, 12, 48, 0, 0, 0);
        out("no byte more", at(w, 6), OUT_OF_BYTES);
        DataLayout v = with(1, 1, 3, 1, 3, 3, 1, 5, 2);
        clause(v, 2, VALUE, 7, 0);
        due("external", v.external(3, 4) + v.external(2, 4), 2);
        lay(v, 11);
        bytes(v, 8, 48, 48, 55);
        due("external", v.external(1, 4), 1);
        lay(v, 3);
        bytes(v, 0, 32, 32, 32);
        DataLayout u = with(1, 0, 0, 2, 1, 1, 2, 8, 4, 1, 1, 4);
        clause(u, 3, SYNC, 0, 0);
        due("external", u.external(1, 4) + u.external(4, 4), 2);
        lay(u, 4);
        bytes(u, 0, 32, 0, 0, 0);
        DataLayout t = with(1, 0, 0, 2, 0, 0, 3, 1, 1, 3, 3, 2, 3, 5, 1, 2, 3, 1, 1, 0, 0, 2, 1, 1, 1, 0, 0, 2, 7, 1);
        redefine(t, 6, 2);
        clause(t, 6, TABLE, 5, 0);
        redefine(t, 7, 1);
        clause(t, 8, TABLE, 4, 0);
        redefine(t, 9, 1);
        clause(t, 10, DEPENDS, 0, 7);
        lay(t, 7);
        bytes(t, 0, 32, 48, 48, 43, 48, 0, 0);
        out("no byte more", at(t, 7), OUT_OF_BYTES);
        DataLayout r = with(1, 0, 0, 2, 1, 1, 2, 3, 2, 1, 0, 0, 2, 8, 1, 2, 2, 1, 1, 0, 0, 2, 1, 1);
        clause(r, 8, TABLE, 3, 0);
        due("external", r.external(7, 1) + r.external(1, 1), 2);
        lay(r, 12);
        bytes(r, 0, 32, 48, 48, 0, 0, 0, 0, 0, 0, 0, 0, 32);
        out("no byte more", at(r, 12), OUT_OF_BYTES);
    }

    // ---- Terms: refusals

    /** What the calls that need a layout answer for an item. */
    private static void askAll(DataLayout x, int item, String what, int place, int subscript, int slack) {
        by(place >= 0, "place of " + what, x.place(item), place);
        by(place >= 0, "size of " + what, x.size(item), place < 0 ? place : 1);
        by(place >= 0, "refer to " + what, x.refer(item, 1, 1), place);
        by(subscript >= 0, "subscript of " + what, subscript(x, item, 1, 1, 1), subscript);
        by(slack >= 0, "slack of " + what, x.slack(item), slack);
    }

    private static DataLayout fiveItems() {
        DataLayout x = with(1, 0, 0, 5, 3, 1, 88, 0, 0, 66, 0, 0, 1, 1, 1);
        clause(x, 3, RANGE, 0, 0);
        clause(x, 4, PART, 2, 2);
        return x;
    }

    private static void termsRefusals() {
        says("Refusals: -2 no such item; -4 a number is not so; -5 not laid out; the first one of these");
        DataLayout x = fiveItems();
        int[] none = {0, 6, -1, 120, 121, LEAST, GREATEST};
        for (int item : none) {
            askAll(x, item, "none", -2, -2, -2);
        }
        askAll(x, 2, "an item", -5, -5, -5);
        askAll(x, 3, "a name", -4, -4, -4);
        askAll(x, 4, "a part", -5, -4, -4);
        out("octet not so", x.octet(20000, (byte) 0), -4);
        out("octet", x.octet(0, (byte) 0), -5);
        lay(x, 9);
        for (int item : none) {
            askAll(x, item, "none", -2, -2, -2);
        }
        askAll(x, 2, "an item", 0, 0, 0);
        askAll(x, 3, "a name", -4, -4, -4);
        askAll(x, 4, "a part", 0, -4, -4);
        askAll(x, 5, "a record", 8, 8, 0);
        says("-5 not laid out (as it is at first, and whenever an item or a clause is told,"
                + " or one redefines another one or is made external)");
        out("at first", with(1, 1, 1).place(1), -5);
        unlaid();
        stillLaid();
    }

    /** Laid out, with a place for each kind of what may be told. */
    private static DataLayout laid() {
        DataLayout x = with(1, 0, 0, 5, 8, 4, 88, 0, 0, 5, 8, 4, 66, 0, 0, 1, 1, 1, 1, 1, 1);
        clause(x, 3, RANGE, 0, 0);
        clause(x, 5, PART, 2, 2);
        lay(x, 17);
        in("laid out", x.place(7), 16);
        return x;
    }

    private static void isUnlaid(String told, DataLayout x, int got, int want) {
        due(told, got, want);
        out(told + ", then place", x.place(1), -5);
        out(told + ", then size", x.size(2), -5);
        out(told + ", then subscript", subscript(x, 2, 0, 0, 0), -5);
        out(told + ", then refer", x.refer(2, 1, 1), -5);
        out(told + ", then slack", x.slack(2), -5);
        out(told + ", then count(3)", x.count(3), -1);
        out(told + ", then count(4)", x.count(4), -1);
        out(told + ", then at", at(x, 0), OUT_OF_BYTES);
        out(told + ", then octet", x.octet(0, (byte) 0), -5);
        out(told + ", then holds", holds(x, 3), NO_NUMBER);
        in(told + ", then lay", x.lay() > 0 ? 1 : 0, 1);
        in(told + ", then place again", x.place(1), 0);
        in(told + ", then holds again", holds(x, 3), 1);
    }

    private static void unlaid() {
        DataLayout x = laid();
        isUnlaid("a record", x, x.item(1, 0, 0) + x.item(5, 1, 1), 17);
        isUnlaid("an item below it", x, x.item(5, 1, 1), 10);
        isUnlaid("a 77", x, x.item(77, 3, 1), 11);
        DataLayout y = laid();
        isUnlaid("a value", y, y.clause(4, VALUE, 3, 0), 1);
        isUnlaid("a table", y, y.clause(4, TABLE, 3, 0), 1);
        isUnlaid("synchronised", y, y.clause(4, SYNC, 3, 0), 1);
        isUnlaid("a range", y, y.clause(3, RANGE, 3, 4), 1);
        DataLayout z = laid();
        isUnlaid("one that depends", z, z.clause(4, DEPENDS, 0, 3), 1);
        isUnlaid("a record redefines", z, z.redefines(7, 6), 1);
        isUnlaid("a record becomes external", z, z.external(1, 9), 1);
        DataLayout w = laid();
        isUnlaid("an item redefines", w, w.redefines(4, 2), 1);
    }

    private static void stillLaid() {
        DataLayout x = laid();
        due("octet", x.octet(16, (byte) 99), 1);
        int[][] items = {{0, 1, 1}, {1, 12, 1}, {1, 1, 0}, {2, 1, 1}, {66, 0, 0}, {88, 0, 0}};
        for (int[] told : items) {
            due("a refused item", x.item(told[0], told[1], told[2]) < 0 ? 1 : 0, 1);
        }
        int[][] clauses = {{0, 0, 1, 1}, {8, 0, 1, 1}, {2, 6, 1, 1}, {2, 0, 0, 0}, {2, 1, 2, 1}, {3, 4, 2, 1}, {1, 0, 1, 1},
            {1, 1, 1, 1}, {1, 2, 1, 1}, {1, 3, 1, 1}, {1, 4, 1, 1}, {1, 5, 1, 1}, {5, 5, 0, 1}, {5, 5, 2, 2}, {4, 3, 10000, 0}};
        for (int[] told : clauses) {
            due("a refused clause", x.clause(told[0], told[1], told[2], told[3]) <= 0 ? 1 : 0, 1);
        }
        due("redefines itself", x.redefines(4, 4), 0);
        due("redefines none", x.redefines(4, 8), -2);
        due("external, of level 5", x.external(4, 1), 0);
        due("external, none", x.external(8, 1), -2);
        due("external, no name", x.external(1, 100), -4);
        due("depending, none", x.depending(8, 1), -2);
        due("depending, no table", x.depending(4, 1), -4);
        due("checks", x.checks(false) + x.checks(true), 0);
        due("octet beyond", x.octet(17, (byte) 0), -4);
        due("at beyond", at(x, 17), OUT_OF_BYTES);
        due("no name", holds(x, 4), NO_SUCH_NAME);
        in("refused calls leave it laid out", x.place(7), 16);
        in("with its bytes", at(x, 16), 99);
        DataLayout y = with(1, 0, 0, 5, 1, 1);
        clause(y, 2, DEPENDS, 1, 2);
        lay(y, 2);
        due("depending", y.depending(2, 1), 1);
        due("depending, too few", y.depending(2, 0), 0);
        in("the number of entries leaves it laid out", y.count(4), 2);
    }

    // ---- Promises 1, 2, 3, 10, 13: what is told

    private static void promisesOfTelling() {
        says("Promise 1: No items; subscripts are looked at.");
        DataLayout x = new DataLayout();
        in("count(0)", x.count(0), 0);
        in("count(1)", x.count(1), 0);
        in("count(2)", x.count(2), 0);
        out("place(0)", x.place(0), -2);
        out("place(1)", x.place(1), -2);
        DataLayout y = with(1, 0, 0, 5, 1, 1);
        clause(y, 2, TABLE, 2, 0);
        lay(y, 2);
        in("the second one", subscript(y, 2, 2, 0, 0), 1);
        out("the third one", subscript(y, 2, 3, 0, 0), -6);
        says("Promise 2: -4 level, usage or size is not so; -3 it can't be there; NONE when there are 120.");
        DataLayout z = with(77, 1, 1);
        out("no level, can't be there", z.item(50, 1, 1), -4);
        out("no usage, can't be there", z.item(5, 12, 1), -4);
        out("no size, can't be there", z.item(5, 1, 0), -4);
        out("can't be there", z.item(5, 1, 1), -3);
        in("can be there", z.item(1, 1, 1), 2);
        in("refused ones are none", z.count(0), 2);
        clauseRefusals();
        clausesTold();
        says("Promise 10: 1; 0 it can't, or does already; -2.");
        int[] pair = {1, 0, 0, 5, 1, 1, 5, 1, 1};
        int[] none = {0, 4, -1, 121, LEAST, GREATEST};
        for (int item : none) {
            out("no item", with(pair).redefines(item, 2), -2);
            out("no other", with(pair).redefines(3, item), -2);
            out("neither of them", with(pair).redefines(item, item), -2);
        }
        in("both of them", with(pair).redefines(3, 2), 1);
        externals();
    }

    private static void clauseRefusals() {
        says("Promise 3: -2 no such item (5: also a, b); -4 kind is not so, or 0, 1: a, b are not, 4: turned;");
        int[] items = {1, 0, 0, 5, 3, 1, 88, 0, 0, 66, 0, 0};
        int[] none = {0, 5, -1, 121, LEAST, GREATEST};
        for (int item : none) {
            for (int kind = -1; kind <= 6; kind++) {
                out("item " + item + ", kind " + kind, with(items).clause(item, kind, 2, 1), -2);
            }
            out("from none", with(items).clause(4, PART, item, 2), -2);
            out("to none", with(items).clause(4, PART, 2, item), -2);
            out("from none, not of a 66", with(items).clause(2, PART, item, 2), -2);
            out("to none, not of a 66", with(items).clause(2, PART, 2, item), -2);
        }
        int[] kinds = {-1, 6, LEAST, GREATEST, 256, 65536 + 4};
        for (int kind : kinds) {
            for (int item = 1; item <= 4; item++) {
                out("kind " + kind, with(items).clause(item, kind, 1, 1), -4);
                out("kind " + kind + " of no items", with(items).clause(item, kind, 0, 0), -4);
            }
        }
        for (int item = 1; item <= 4; item++) {
            out("a table of none", with(items).clause(item, TABLE, 0, 1), -4);
            out("a table of none that depends", with(items).clause(item, DEPENDS, 0, 0), -4);
            out("a range turned", with(items).clause(item, RANGE, 1, 0), -4);
        }
        in("table", with(items).clause(2, TABLE, 1, 0), 1);
        in("depends", with(items).clause(2, DEPENDS, 0, 1), 1);
        in("synchronised", with(77, 8, 1).clause(1, SYNC, 0, 0), 1);
        in("value", with(items).clause(2, VALUE, 9, 0), 1);
        in("range", with(items).clause(3, RANGE, 1, 1), 1);
        in("part", with(items).clause(4, PART, 2, 2), 1);
    }

    private static void clausesTold() {
        says("0 it can't have it, or has it (4: has 8)");
        DataLayout x = with(1, 0, 0, 5, 1, 1, 5, 8, 9, 88, 0, 0, 66, 0, 0, 1, 0, 0, 5, 3, 2);
        in("a table", x.clause(7, TABLE, 3, 0), 1);
        out("again", x.clause(7, TABLE, 4, 0), 0);
        out("again, depends", x.clause(7, DEPENDS, 1, 4), 0);
        out("again, and not so", x.clause(7, TABLE, 0, 0), -4);
        in("synchronised", x.clause(3, SYNC, 0, 0), 1);
        out("again", x.clause(3, SYNC, 0, 0), 0);
        in("a value", x.clause(3, VALUE, 0, 0), 1);
        out("again", x.clause(3, VALUE, 5, 0), 0);
        in("a part", x.clause(5, PART, 2, 2), 1);
        out("again", x.clause(5, PART, 3, 3), 0);
        for (int k = 1; k <= 8; k++) {
            in("range " + k, x.clause(4, RANGE, 0, 0), 1);
        }
        out("a ninth one", x.clause(4, RANGE, 5, 5), 0);
        lay(x, 8 + 6);
        out("the second table is none", subscript(x, 7, 4, 0, 0), -6);
        in("the first one is", subscript(x, 7, 3, 0, 0), 12);
        in("the first value", at(x, 7), 0);
        in("the first part", x.place(5), 0);
        DataLayout y = with(1, 0, 0, 5, 1, 1);
        in("one that depends", y.clause(2, DEPENDS, 1, 3), 1);
        out("again", y.clause(2, DEPENDS, 1, 4), 0);
        out("a table", y.clause(2, TABLE, 4, 0), 0);
        lay(y, 3);
    }

    private static void externals() {
        says("Promise 13: A record is external by a name 0 .. 99: 1; 0 it is not of level 1, is so already,"
                + " or redefines or is redefined; -2, -4.");
        int[] names = {LEAST, -1, 0, 1, 98, 99, 100, 256, 65536, GREATEST};
        for (int name : names) {
            boolean is = name >= 0 && name <= 99;
            by(is, "name " + name, with(1, 1, 1).external(1, name), is ? 1 : -4);
            by(is, "name " + name + " of level 5", with(1, 0, 0, 5, 1, 1).external(2, name), is ? 0 : -4);
            out("name " + name + " of none", with(1, 1, 1).external(2, name), -2);
            out("name " + name + " of item 0", with(1, 1, 1).external(0, name), -2);
        }
        DataLayout x = with(1, 0, 0, 2, 3, 1, 88, 0, 0, 66, 0, 0, 77, 1, 1, 1, 1, 1, 1, 1, 1, 1, 1, 1);
        for (int item = 2; item <= 5; item++) {
            out("item " + item, x.external(item, 0), 0);
        }
        redefine(x, 7, 6);
        out("it is redefined", x.external(6, 0), 0);
        out("it redefines", x.external(7, 0), 0);
        in("neither of both", x.external(8, 0), 1);
        out("it is so already", x.external(8, 0), 0);
        out("it is so already, by another name", x.external(8, 1), 0);
        in("a group", x.external(1, 0), 1);
    }

    // ---- Promise 4

    private static void promiseLay() {
        says("Promise 4: All is laid out: how many bytes, up to the last one's end;");
        in("nothing", new DataLayout().lay(), 0);
        out("nothing has no byte", at(new DataLayout(), 0), OUT_OF_BYTES);
        DataLayout x = with(1, 1, 9, 1, 1, 3, 1, 1, 9);
        redefine(x, 2, 1);
        due("external", x.external(3, 0), 1);
        lay(x, 25);
        in("the last byte", at(x, 24), 32);
        out("none behind it", at(x, 25), OUT_OF_BYTES);
        DataLayout y = with(1, 1, 9, 1, 1, 3);
        redefine(y, 2, 1);
        in("the last record ends first", y.lay(), 9);
        says("-10 minus the first item that isn't right: a group without items below it");
        out("the first one", with(1, 0, 0).lay(), -11);
        out("a group of 77", with(77, 0, 0).lay(), -11);
        out("a group with a part behind it", with(1, 0, 0, 66, 0, 0).lay(), -11);
        out("the first one of two", with(1, 1, 1, 1, 0, 0, 1, 0, 0).lay(), -12);
        out("one with another one behind it", with(1, 0, 0, 5, 0, 0, 5, 1, 1).lay(), -12);
        out("one below another one", with(1, 0, 0, 5, 0, 0, 6, 0, 0).lay(), -13);
        in("one with an item", with(1, 0, 0, 5, 0, 0, 6, 1, 1).lay(), 1);
        DataLayout z = new DataLayout();
        for (int i = 1; i <= 119; i++) {
            due("item", z.item(77, 1, 1), i);
        }
        in("119 items", z.lay(), 118 * 8 + 1);
        due("item", z.item(1, 0, 0), 120);
        out("the last one that may be", z.lay(), -130);
        out("then it is not laid out", z.place(1), -5);
        says("a 66, 88 without its clause");
        DataLayout w = with(1, 0, 0, 5, 3, 1, 88, 0, 0, 88, 0, 0, 66, 0, 0, 66, 0, 0);
        out("none of them", w.lay(), -13);
        clause(w, 4, RANGE, 1, 1);
        out("the other name", w.lay(), -13);
        clause(w, 3, RANGE, 1, 1);
        out("both names", w.lay(), -15);
        clause(w, 5, PART, 2, 2);
        out("a part as well", w.lay(), -16);
        clause(w, 6, PART, 2, 2);
        in("all of them", w.lay(), 1);
        wrongParts();
        wrongDepending();
        wrongExternals();
        tooManyBytes();
    }

    private static void wrongParts() {
        says("a 66 with a table among its items, or around or below them");
        int[] tree = {1, 0, 0, 2, 1, 1, 2, 0, 0, 3, 0, 0, 4, 1, 2, 4, 1, 3, 3, 1, 4, 2, 1, 5, 66, 0, 0};
        int[] around = {0, 0, 1, 1, 3, 4, 4, 3, 1};
        int[] lastBelow = {0, 0, 2, 7, 6, 5, 6, 7, 8};
        for (int a = 2; a <= 8; a++) {
            for (int b = a; b <= 8; b++) {
                if (b != a && b <= lastBelow[a]) {
                    continue;
                }
                for (int table = 2; table <= 8; table++) {
                    boolean met = table >= a && table <= lastBelow[b];
                    for (int i = a; i <= b; i++) {
                        met |= around[i] == table || around[around[i]] == table;
                    }
                    DataLayout x = with(tree);
                    clause(x, 9, PART, a, b);
                    clause(x, table, TABLE, 1, 0);
                    by(!met, a + " .. " + b + " with a table at " + table, x.lay(), met ? -19 : 15);
                }
            }
        }
        says("or one of whose ends redefines, or lies in one that does");
        int[] over = {1, 0, 0, 2, 1, 9, 2, 0, 0, 3, 1, 1, 3, 0, 0, 4, 1, 1, 2, 1, 1, 66, 0, 0};
        int[] last = {0, 0, 2, 6, 4, 6, 6, 7};
        for (int a = 2; a <= 7; a++) {
            for (int b = a; b <= 7; b++) {
                if (b != a && b <= last[a]) {
                    continue;
                }
                boolean met = (a >= 3 && a <= 6) || (b >= 3 && b <= 6);
                DataLayout x = with(over);
                clause(x, 8, PART, a, b);
                redefine(x, 3, 2);
                by(!met, a + " .. " + b + " of which 3 redefines 2", x.lay(), met ? -18 : 10);
                if (!met) {
                    in("its size", x.size(8), (b == 2 ? 9 : 10) - (a == 2 ? 0 : 9));
                }
            }
        }
        DataLayout y = with(1, 1, 3, 1, 0, 0, 2, 1, 1, 66, 0, 0);
        clause(y, 4, PART, 3, 3);
        in("of a record that doesn't redefine", y.lay(), 9);
        redefine(y, 2, 1);
        out("of a record that does", y.lay(), -14);
    }

    private static void wrongDepending() {
        says("a table that depends, and isn't the last one of its record"
                + " (all items behind it, but of levels 66 and 88, are below it)");
        int[][] behind = {{1, 1, 1}, {77, 1, 1}, {88, 0, 0}, {66, 0, 0}, {2, 1, 1}, {3, 3, 1}};
        for (int[] told : behind) {
            boolean may = told[0] != 2 && told[0] != 3;
            DataLayout x = with(1, 0, 0, 2, 1, 1, 2, 0, 0, 3, 3, 1, told[0], told[1], told[2]);
            clause(x, 4, DEPENDS, 0, 2);
            if (told[0] == 88) {
                clause(x, 5, RANGE, 0, 0);
            }
            if (told[0] == 66) {
                clause(x, 5, PART, 2, 2);
            }
            int bytes = told[0] == 1 || told[0] == 77 ? 9 : 3;
            by(may, "level " + told[0] + " behind it", x.lay(), may ? bytes : -14);
        }
        DataLayout y = with(1, 0, 0, 2, 0, 0, 3, 3, 1, 88, 0, 0, 3, 0, 0, 4, 1, 1, 66, 0, 0, 1, 0, 0, 2, 1, 1, 2, 1, 1);
        clause(y, 2, DEPENDS, 0, 2);
        clause(y, 4, RANGE, 0, 0);
        clause(y, 7, PART, 3, 3);
        out("a 66 of a part of it", y.lay(), -17);
        DataLayout z = with(1, 0, 0, 2, 0, 0, 3, 3, 1, 88, 0, 0, 3, 0, 0, 4, 1, 1, 1, 0, 0, 2, 1, 1, 2, 1, 1);
        clause(z, 2, DEPENDS, 0, 2);
        clause(z, 4, RANGE, 0, 0);
        in("all behind it are below it", z.lay(), 10);
        clause(z, 9, DEPENDS, 0, 2);
        in("another one in another record", z.lay(), 11);
        DataLayout w = with(1, 0, 0, 2, 1, 2, 2, 1, 1);
        clause(w, 3, DEPENDS, 0, 2);
        redefine(w, 3, 2);
        in("it redefines, and is the last one", w.lay(), 2);
        DataLayout v = with(1, 0, 0, 2, 1, 1, 2, 1, 1);
        clause(v, 2, DEPENDS, 0, 1);
        clause(v, 3, DEPENDS, 0, 1);
        out("two of them", v.lay(), -12);
        DataLayout u = with(1, 0, 0, 2, 0, 0, 3, 1, 1, 2, 1, 1);
        clause(u, 3, DEPENDS, 1, 1);
        redefine(u, 4, 2);
        out("one that redefines is behind it", u.lay(), -13);
    }

    private static void wrongExternals() {
        says("an external record that isn't as long as the first one of its name");
        for (int n = 1; n <= 12; n++) {
            DataLayout x = with(1, 1, 6, 77, 1, 1, 1, 1, n);
            due("external", x.external(3, 99) + x.external(1, 99), 2);
            by(n == 6, n + " bytes for 6", x.lay(), n == 6 ? 9 : -13);
            DataLayout y = with(1, 1, 6, 1, 0, 0, 2, 1, 1);
            clause(y, 3, DEPENDS, 1, n);
            due("external", y.external(2, 0) + y.external(1, 0), 2);
            due("depending", y.depending(3, 1), 1);
            by(n == 6, "up to " + n + " bytes for 6", y.lay(), n == 6 ? 6 : -12);
            DataLayout z = with(1, 1, 6, 1, 1, n);
            due("external", z.external(2, 0) + z.external(1, 1), 2);
            in("of another name", z.lay(), 8 + n);
        }
        DataLayout w = with(1, 1, 6, 1, 1, 7, 1, 1, 7, 1, 1, 6);
        due("external", w.external(1, 5) + w.external(4, 5) + w.external(3, 6) + w.external(2, 6), 4);
        in("two names", w.lay(), 15);
        DataLayout v = with(1, 1, 6, 1, 1, 6, 1, 1, 7);
        due("external", v.external(1, 5) + v.external(2, 5) + v.external(3, 5), 3);
        out("the third one", v.lay(), -13);
    }

    private static void tooManyBytes() {
        says("-9 there would be more than 20000 bytes");
        for (int n = 198; n <= 200; n++) {
            DataLayout x = with(1, 0, 0, 2, 1, n, 2, 1, 1);
            clause(x, 2, TABLE, 100, 0);
            clause(x, 3, TABLE, 1 + (200 - n) * 100, 0);
            out("20001 bytes", x.lay(), -9);
            out("it is not laid out", x.place(1), -5);
        }
        DataLayout a = with(1, 0, 0, 2, 1, 200);
        clause(a, 2, TABLE, 100, 0);
        in("20000 bytes", a.lay(), 20000);
        in("the last byte", at(a, 19999), 32);
        in("the last entry", subscript(a, 2, 100, 0, 0), 19800);
        out("one behind it", at(a, 20000), OUT_OF_BYTES);
        due("item", a.item(77, 1, 1), 3);
        out("a record more", a.lay(), -9);
        DataLayout b = with(1, 0, 0, 2, 1, 8);
        clause(b, 2, TABLE, 999, 0);
        add(b, 1, 0, 0, 2, 1, 16);
        clause(b, 4, TABLE, 750, 0);
        add(b, 77, 1, 8);
        in("three records", b.lay(), 20000);
        add(b, 1, 1, 1);
        out("a fourth one", b.lay(), -9);
        redefine(b, 6, 3);
        in("it redefines another one", b.lay(), 20000);
        DataLayout c = with(1, 1, 1, 1, 0, 0, 2, 1, 200, 2, 1, 1);
        redefine(c, 2, 1);
        clause(c, 3, TABLE, 100, 0);
        out("a record that redefines is too long", c.lay(), -9);
        DataLayout d = with(1, 0, 0, 2, 1, 40);
        clause(d, 2, DEPENDS, 0, 501);
        due("depending", d.depending(2, 0), 1);
        out("with the most entries there may be", d.lay(), -9);
        DataLayout e = with(1, 0, 0, 2, 1, 40);
        clause(e, 2, DEPENDS, 0, 500);
        in("just as many", e.lay(), 20000);
        DataLayout f = with(1, 0, 0, 2, 0, 0, 3, 0, 0, 4, 1, 200);
        for (int i = 2; i <= 4; i++) {
            clause(f, i, TABLE, 999, 0);
        }
        out("far too many", f.lay(), -9);
        add(f, 1, 0, 0);
        out("an item that isn't right is told first", f.lay(), -15);
    }

    // ---- Promises 5, 6, 11, 12

    private static void promisesOfPlaces() {
        says("Promise 5: Where an item begins (in the first entry of tables); -2, -4 it is of level 88, -5.");
        DataLayout x = with(1, 0, 0, 2, 1, 3, 2, 0, 0, 3, 1, 1, 3, 0, 0, 4, 3, 1, 88, 0, 0, 4, 1, 1, 66, 0, 0, 77, 1, 1);
        clause(x, 3, TABLE, 5, 0);
        clause(x, 5, TABLE, 2, 0);
        clause(x, 7, RANGE, 0, 0);
        clause(x, 9, PART, 2, 2);
        lay(x, 33);
        int[] place = {0, 0, 0, 3, 3, 4, 4, -4, 5, 0, 32};
        int[] size = {0, 28, 3, 5, 1, 2, 1, -4, 1, 3, 1};
        for (int i = 1; i <= 10; i++) {
            by(i != 7, "place(" + i + ")", x.place(i), place[i]);
        }
        says("Promise 6: How many bytes an item has now"
                + " (one entry of a table, without what it takes more at its end); -2, -4, -5.");
        for (int i = 1; i <= 10; i++) {
            by(i != 7, "size(" + i + ")", x.size(i), size[i]);
        }
        for (int n = 0; n <= 4; n++) {
            DataLayout y = with(1, 0, 0, 2, 1, 4, 2, 0, 0, 3, 0, 0, 4, 8, 9, 4, 1, 1, 66, 0, 0, 77, 1, 1);
            clause(y, 5, SYNC, 0, 0);
            clause(y, 4, DEPENDS, 0, 4);
            clause(y, 7, PART, 2, 2);
            lay(y, 41);
            due("depending", y.depending(4, n), 1);
            in("the record with " + n, y.size(1), 4 + 8 * n);
            in("the group with " + n, y.size(3), 8 * n);
            out("an entry", y.size(4), 5);
            out("an item below it", y.size(5), 4);
            out("a part", y.size(7), 4);
            out("the next record", y.place(8), 40);
        }
        DataLayout z = with(1, 0, 0, 2, 1, 6, 2, 0, 0, 3, 1, 1);
        clause(z, 4, DEPENDS, 0, 4);
        lay(z, 10);
        due("depending", z.depending(4, 1), 1);
        in("all with one now", z.size(1), 7);
        redefine(z, 3, 2);
        lay(z, 6);
        in("one that redefines with one now", z.size(3), 1);
        out("all around it is as the other one", z.size(1), 6);
        refers();
        slackBytes();
    }

    private static void refers() {
        says("Promise 11: Where bytes from .. from + n - 1 of an item (from 1 on) begin; -2, -4 (level 88), -5;"
                + " NONE they aren't all within its size now, or n is below 1.");
        for (int from = -1; from <= 7; from++) {
            DataLayout x = with(1, 0, 0, 2, 1, 3, 2, 1, 5, 2, 1, 9);
            clause(x, 3, TABLE, 2, 0);
            lay(x, 22);
            for (int n = -1; n <= 7; n++) {
                boolean is = from >= 1 && n >= 1 && from + n - 1 <= 5;
                by(is, "refer(3, " + from + ", " + n + ")", x.refer(3, from, n), is ? 3 + from - 1 : -1);
            }
        }
        DataLayout y = with(1, 0, 0, 2, 3, 2, 88, 0, 0, 2, 1, 2);
        clause(y, 3, RANGE, 0, 0);
        clause(y, 4, DEPENDS, 0, 3);
        lay(y, 8);
        for (int n = 3; n >= 0; n--) {
            due("depending", y.depending(4, n), 1);
            in("all of " + n, y.refer(1, 1, 2 + 2 * n), 0);
            in("the last of " + n, y.refer(1, 2 + 2 * n, 1), 1 + 2 * n);
            out("one more than " + n, y.refer(1, 1, 3 + 2 * n), -1);
            out("one behind " + n, y.refer(1, 3 + 2 * n, 1), -1);
        }
        in("an entry", y.refer(4, 2, 1), 3);
        out("none of a name", y.refer(3, 1, 0), -4);
        int[][] far = {{1, GREATEST}, {2, GREATEST}, {GREATEST, 1}, {GREATEST, 2}, {GREATEST, GREATEST}, {LEAST, 1},
            {1, LEAST}, {LEAST, LEAST}, {LEAST, GREATEST}, {GREATEST, LEAST}, {0, 1}, {1, 0}, {-1, 3}, {0, 2}, {2, -1}};
        for (int[] p : far) {
            out("refer(1, " + p[0] + ", " + p[1] + ")", y.refer(1, p[0], p[1]), -1);
        }
        DataLayout z = with(1, 0, 0, 2, 1, 1);
        clause(z, 2, DEPENDS, 0, 1);
        lay(z, 1);
        in("one byte", z.refer(1, 1, 1), 0);
        due("depending", z.depending(2, 0), 1);
        out("no byte now", z.refer(1, 1, 1), -1);
        out("none of no byte", z.refer(1, 1, 0), -1);
    }

    private static void slackBytes() {
        says("Promise 12: How many slack bytes are just ahead of an item in its record (of a record 0);"
                + " -2, -4 (levels 66, 88), -5.");
        for (int ahead = 1; ahead <= 17; ahead++) {
            DataLayout x = with(1, 0, 0, 2, 1, ahead, 2, 10, 0, 2, 1, 1, 77, 10, 0, 1, 10, 0);
            clause(x, 3, SYNC, 0, 0);
            clause(x, 5, SYNC, 0, 0);
            clause(x, 6, SYNC, 0, 0);
            lay(x, up(up(ahead, 8) + 9, 8) + 16);
            in("slack(3) behind " + ahead, x.slack(3), up(ahead, 8) - ahead);
            out("slack(4)", x.slack(4), 0);
            out("slack(2)", x.slack(2), 0);
            out("of a record", x.slack(1) + x.slack(6), 0);
            out("of a 77", x.slack(5), 0);
            in("in all", x.count(3), up(ahead, 8) - ahead);
        }
        DataLayout y = with(1, 0, 0, 2, 1, 1, 2, 0, 0, 3, 8, 4, 3, 1, 1, 2, 9, 0);
        clause(y, 4, SYNC, 0, 0);
        clause(y, 6, SYNC, 0, 0);
        clause(y, 3, TABLE, 3, 0);
        lay(y, 20);
        in("ahead of a table", y.slack(3), 1);
        in("what the last entry takes more is none of it", y.slack(6), 2);
        in("in all", y.count(3), 3);
    }

    // ---- Promise 7

    /** Three tables of 2, 3 and 4 entries, in one another; item 4 is of two bytes. */
    private static DataLayout threeDeep() {
        DataLayout x = with(77, 1, 8, 1, 0, 0, 2, 0, 0, 3, 0, 0, 4, 1, 2, 3, 1, 1, 2, 1, 5);
        clause(x, 3, TABLE, 2, 0);
        clause(x, 4, TABLE, 3, 0);
        clause(x, 5, TABLE, 4, 0);
        lay(x, 8 + 2 * (3 * 8 + 1) + 5);
        return x;
    }

    private static void promiseSubscript() {
        says("Promise 7: Where an item begins by subscripts, the outermost table's first"
                + " (those it doesn't need aren't looked at)");
        for (int a = 0; a <= 3; a++) {
            DataLayout x = threeDeep();
            for (int b = 0; b <= 4; b++) {
                for (int c = 0; c <= 5; c++) {
                    boolean one = a >= 1 && a <= 2;
                    boolean two = one && b >= 1 && b <= 3;
                    boolean three = two && c >= 1 && c <= 4;
                    String by = a + ", " + b + ", " + c;
                    int first = 8 + 25 * (a - 1);
                    by(three, "5 by " + by, subscript(x, 5, a, b, c), three ? first + 8 * (b - 1) + 2 * (c - 1) : -6);
                    by(two, "4 by " + by, subscript(x, 4, a, b, c), two ? first + 8 * (b - 1) : -6);
                    by(one, "6 by " + by, subscript(x, 6, a, b, c), one ? first + 24 : -6);
                    by(one, "3 by " + by, subscript(x, 3, a, b, c), one ? first : -6);
                    in("7 by " + by, subscript(x, 7, a, b, c), 58);
                    in("2 by " + by, subscript(x, 2, a, b, c), 8);
                }
            }
        }
        says("-6 one is not 1 .. the number of entries now, when they are looked at");
        for (int now = 0; now <= 5; now++) {
            DataLayout x = with(1, 0, 0, 2, 1, 3, 2, 0, 0, 3, 1, 1, 3, 1, 1);
            clause(x, 3, DEPENDS, 0, 5);
            clause(x, 5, TABLE, 2, 0);
            lay(x, 18);
            due("depending", x.depending(3, now), 1);
            in("all with " + now + " entries, with a table in each", x.size(1), 3 + 3 * now);
            for (int a = -1; a <= 7; a++) {
                boolean is = a >= 1 && a <= now;
                by(is, a + " of " + now, subscript(x, 3, a, 0, 0), is ? 3 * a : -6);
                by(is, a + " of " + now + ", below", subscript(x, 5, a, 2, 0), is ? 3 * a + 2 : -6);
                out(a + " of " + now + ", below, third of 2", subscript(x, 5, a, 3, 0), -6);
            }
            int[] far = {LEAST, LEAST + 1, GREATEST, 1 << 30, 256 + 1, 65536 + 1};
            for (int a : far) {
                out(a + " of " + now, subscript(x, 3, a, 0, 0), -6);
            }
        }
        notLookedAt();
    }

    private static void notLookedAt() {
        says("ArrayIndexOutOfBoundsException when they aren't,"
                + " and it (with all bytes that an entry may have) would not lie within all bytes");
        DataLayout x = threeDeep();
        x.checks(false);
        int all = 63;
        for (int c = -8; c <= 40; c++) {
            int place = 8 + 2 * (c - 1);
            boolean is = place >= 0 && place + 2 <= all;
            by(is, "5 by 1, 1, " + c, subscript(x, 5, 1, 1, c), is ? place : OUT_OF_BYTES);
        }
        for (int a = -3; a <= 6; a++) {
            for (int b = -3; b <= 8; b++) {
                int place = 8 + 25 * (a - 1) + 8 * (b - 1);
                boolean is = place >= 0 && place + 8 <= all;
                by(is, "4 by " + a + ", " + b, subscript(x, 4, a, b, 99), is ? place : OUT_OF_BYTES);
            }
        }
        int[] far = {LEAST, LEAST + 1, GREATEST, GREATEST - 1, 1 << 30, -(1 << 30), (1 << 31) + 1, 1 + (1 << 29)};
        DataLayout y = threeDeep();
        y.checks(false);
        for (int a : far) {
            out("3 by " + a, subscript(y, 3, a, 1, 1), OUT_OF_BYTES);
            out("4 by " + a, subscript(y, 4, 1, a, 1), OUT_OF_BYTES);
            out("5 by " + a, subscript(y, 5, 1, 1, a), OUT_OF_BYTES);
            out("5 by " + a + " thrice", subscript(y, 5, a, a, a), OUT_OF_BYTES);
            in("7 by " + a, subscript(y, 7, a, a, a), 58);
            in("1 by " + a, subscript(y, 1, a, a, a), 0);
        }
        wrapsRound();
        DataLayout z = with(1, 0, 0, 2, 1, 2, 1, 1, 3);
        clause(z, 2, DEPENDS, 0, 4);
        lay(z, 11);
        due("depending", z.depending(2, 0), 1);
        z.checks(false);
        for (int a = -1; a <= 8; a++) {
            boolean is = a >= 1 && a <= 5;
            by(is, a + " of none now", subscript(z, 2, a, 0, 0), is ? 2 * (a - 1) : OUT_OF_BYTES);
        }
        z.checks(true);
        out("the first one of none now", subscript(z, 2, 1, 0, 0), -6);
    }

    /** Where entries take a power of two, an int would come back to a place within. */
    private static void wrapsRound() {
        int[] sizes = {1, 2, 4, 8, 16, 32, 64, 128};
        for (int size : sizes) {
            DataLayout x = with(1, 0, 0, 2, 1, size);
            clause(x, 2, TABLE, 3, 0);
            lay(x, 3 * size);
            x.checks(false);
            in("the last one", subscript(x, 2, 3, 0, 0), 2 * size);
            out("one behind it", subscript(x, 2, 4, 0, 0), OUT_OF_BYTES);
            out("one ahead of all", subscript(x, 2, 0, 0, 0), OUT_OF_BYTES);
            if (size > 2) {
                int once = (int) ((1L << 32) / size);
                out("once round", subscript(x, 2, once + 1, 0, 0), OUT_OF_BYTES);
                out("once round, and one more", subscript(x, 2, once + 2, 0, 0), OUT_OF_BYTES);
                out("once round, backwards", subscript(x, 2, 1 - once, 0, 0), OUT_OF_BYTES);
            }
        }
    }

    // ---- Promises 8, 9

    private static void promisesOfTables() {
        says("Promise 8: Subscripts are looked at, or not: how many were so far (of each call up to one that is wrong).");
        DataLayout x = threeDeep();
        int[][] calls = {{5, 1, 1, 1, 3}, {5, 2, 3, 4, 3}, {4, 1, 1, 9, 2}, {3, 1, 9, 9, 1}, {7, 9, 9, 9, 0},
            {5, 1, 1, 0, 3}, {5, 1, 1, 5, 3}, {5, 1, 0, 0, 2}, {5, 1, 4, 1, 2}, {5, 0, 1, 1, 1}, {5, 3, 0, 0, 1},
            {4, 1, 4, 1, 2}, {8, 1, 1, 1, 0}, {0, 1, 1, 1, 0}};
        int so = 0;
        for (int[] call : calls) {
            in("so far", x.checks(true), so);
            subscript(x, call[0], call[1], call[2], call[3]);
            so += call[4];
            in("so far", x.checks(false), so);
            subscript(x, call[0], call[1], call[2], call[3]);
            out("not looked at", x.checks(false), so);
        }
        out("still not looked at", subscript(x, 5, 1, 1, 5), 16);
        due("so far", x.checks(true), so);
        out("looked at again", subscript(x, 5, 1, 1, 5), -6);
        in("so far", x.checks(true), so + 3);
        DataLayout y = with(1, 0, 0, 2, 3, 1, 88, 0, 0, 66, 0, 0);
        clause(y, 3, RANGE, 0, 0);
        clause(y, 2, TABLE, 2, 0);
        subscript(y, 2, 1, 1, 1);
        subscript(y, 3, 1, 1, 1);
        out("none of calls that are refused", y.checks(true), 0);
        says("Promise 9: A table that depends has n entries now: 1; -2; -4 it doesn't depend;"
                + " 0 n is less or more than it may have.");
        for (int a = 0; a <= 3; a++) {
            DataLayout z = with(1, 0, 0, 2, 1, 1, 2, 1, 1);
            out("no table", z.depending(3, a), -4);
            clause(z, 2, TABLE, 3, 0);
            clause(z, 3, DEPENDS, a, 3);
            out("a table that doesn't depend", z.depending(2, 3), -4);
            out("a group", z.depending(1, 3), -4);
            out("none", z.depending(4, 3), -2);
            out("item 0", z.depending(0, 3), -2);
            in("not laid out", z.depending(3, 3), 1);
            lay(z, 6);
            int now = 3;
            for (int n = -2; n <= 6; n++) {
                boolean is = n >= a && n <= 3;
                by(is, n + " of " + a + " .. 3", z.depending(3, n), is ? 1 : 0);
                now = is ? n : now;
                by(is, "size(1)", z.size(1), 3 + now);
            }
            int[] far = {LEAST, GREATEST, 256 + a, 65536 + 3};
            for (int n : far) {
                out(n + " of " + a + " .. 3", z.depending(3, n), 0);
            }
            in("as it was", z.size(1), 6);
        }
        DataLayout w = with(1, 0, 0, 2, 1, 1);
        clause(w, 2, DEPENDS, 999, 999);
        out("998", w.depending(2, 998), 0);
        in("999", w.depending(2, 999), 1);
        out("1000", w.depending(2, 1000), 0);
        DataLayout v = with(1, 0, 0, 2, 3, 1, 88, 0, 0, 66, 0, 0);
        out("a name", v.depending(3, 1), -4);
        out("a part", v.depending(4, 1), -4);
    }

    // ---- Promises 14, 15

    private static void promisesOfBytes() {
        says("Promise 14: A byte of all that is laid out. ArrayIndexOutOfBoundsException when there is none such"
                + " (also as long as it is not laid out).");
        int[] far = {LEAST, -1, GREATEST, 20000, 19999, 256, 65536};
        for (int n = 1; n <= 9; n++) {
            DataLayout x = with(77, 1, n);
            out("not laid out", at(x, 0), OUT_OF_BYTES);
            lay(x, n);
            for (int i = -2; i <= 11; i++) {
                boolean is = i >= 0 && i < n;
                by(is, "at(" + i + ") of " + n, at(x, i), is ? 32 : OUT_OF_BYTES);
            }
            for (int i : far) {
                out("at(" + i + ") of " + n, at(x, i), OUT_OF_BYTES);
            }
        }
        says("Promise 15: A byte becomes b: 1; -4 i is not 0 .. 19999, or, when it is laid out, beyond its bytes; -5.");
        DataLayout y = with(77, 1, 5);
        int[][] unlaid = {{LEAST, -4}, {-1, -4}, {0, -5}, {1, -5}, {5, -5}, {19998, -5}, {19999, -5}, {20000, -4},
            {20001, -4}, {65536, -4}, {GREATEST, -4}};
        for (int[] p : unlaid) {
            out("octet(" + p[0] + "), not laid out", y.octet(p[0], (byte) 1), p[1]);
        }
        lay(y, 5);
        int[][] laid = {{LEAST, -4}, {-1, -4}, {0, 1}, {1, 1}, {4, 1}, {5, -4}, {6, -4}, {19999, -4}, {20000, -4},
            {256, -4}, {65536, -4}, {GREATEST, -4}};
        for (int[] p : laid) {
            by(p[1] == 1, "octet(" + p[0] + ")", y.octet(p[0], (byte) (100 + p[0] % 10)), p[1]);
        }
        bytes(y, 0, 100, 101, 32, 32, 104);
        for (int b = -128; b <= 127; b++) {
            in("octet", y.octet(3, (byte) b), 1);
            in("becomes " + b, at(y, 3), b);
            y = b % 64 == 0 ? fresh() : y;
        }
        out("the one ahead of it stays", at(y, 2), 32);
        DataLayout z = with(1, 0, 0, 2, 1, 200);
        clause(z, 2, TABLE, 100, 0);
        lay(z, 20000);
        in("the last of 20000", z.octet(19999, (byte) -1), 1);
        in("it is so", at(z, 19999), -1);
        out("one behind it", z.octet(20000, (byte) -1), -4);
        DataLayout w = new DataLayout();
        out("of nothing, not laid out", w.octet(0, (byte) 0), -5);
        lay(w, 0);
        out("of nothing", w.octet(0, (byte) 0), -4);
    }

    private static DataLayout fresh() {
        DataLayout x = with(77, 1, 5);
        lay(x, 5);
        return x;
    }

    // ---- Promise 16

    private static void promiseHolds() {
        says("Promise 16: Whether a name of level 88 holds: its item says a number in one of its ranges.");
        int[] values = {-99, -51, -50, -49, -41, -40, -39, -1, 0, 1, 9, 10, 11, 49, 50, 51, 99};
        for (int usage = 3; usage <= 8; usage++) {
            for (int value : values) {
                DataLayout x = with(1, 0, 0, 5, usage, 2, 88, 0, 0, 88, 0, 0);
                clause(x, 2, VALUE, value, 0);
                clause(x, 3, RANGE, 10, 50);
                clause(x, 3, RANGE, -50, -40);
                clause(x, 4, RANGE, 0, 0);
                lay(x, bytesOf(usage, 2));
                boolean is = (value >= 10 && value <= 50) || (value >= -50 && value <= -40);
                by(is, value + " of usage " + usage, holds(x, 3), is ? 1 : 0);
                by(value == 0, value + " as none, usage " + usage, holds(x, 4), value == 0 ? 1 : 0);
            }
        }
        farNumbers();
        says("(in the first entry)");
        DataLayout y = with(1, 0, 0, 5, 1, 1, 5, 0, 0, 6, 3, 1, 88, 0, 0);
        clause(y, 3, TABLE, 2, 0);
        clause(y, 4, TABLE, 2, 0);
        clause(y, 5, RANGE, 5, 5);
        lay(y, 5);
        for (int i = 1; i <= 4; i++) {
            due("octet", y.octet(i, (byte) 53), 1);
            by(i == 1, "a 5 at " + i, holds(y, 5), 1);
        }
        due("octet", y.octet(1, (byte) 54), 1);
        out("no 5 in the first entry", holds(y, 5), 0);
        says("IllegalArgumentException when there is no such name; IllegalStateException when it is not laid out,"
                + " or its item's bytes aren't digits or signs.");
        DataLayout x = fiveItems();
        int[] none = {0, 6, -1, 121, LEAST, GREATEST, 1, 2, 4, 5};
        for (int item : none) {
            out("item " + item + ", not laid out", holds(x, item), NO_SUCH_NAME);
        }
        out("a name, not laid out", holds(x, 3), NO_NUMBER);
        lay(x, 9);
        for (int item : none) {
            out("item " + item, holds(x, item), NO_SUCH_NAME);
        }
        in("a name", holds(x, 3), 1);
        due("octet", x.octet(0, (byte) 47), 1);
        out("no digit", holds(x, 3), NO_NUMBER);
        DataLayout z = with(77, 3, 1, 88, 0, 0);
        out("a name without ranges", holds(z, 2), NO_NUMBER);
        out("is not right", z.lay(), -12);
        out("so it is not laid out", holds(z, 2), NO_NUMBER);
        DataLayout w = with(1, 0, 0, 5, 1, 2, 5, 3, 2, 88, 0, 0, 5, 8, 1, 88, 0, 0);
        redefine(w, 3, 2);
        redefine(w, 5, 2);
        clause(w, 4, RANGE, LEAST, GREATEST);
        clause(w, 6, RANGE, 0x2020, 0x2020);
        lay(w, 2);
        out("spaces are no digits", holds(w, 4), NO_NUMBER);
        in("any bytes are binary", holds(w, 6), 1);
    }

    /** Numbers of 18 digits about the least and the greatest int. */
    private static void farNumbers() {
        String[] digits = {"000000002147483647", "000000002147483648", "000000002147483649", "000000004294967296",
            "999999999999999999", "100000000000000000", "000000000000000000"};
        for (int usage = 3; usage <= 6; usage++) {
            for (String text : digits) {
                for (int sign = 1; sign >= -1; sign -= 2) {
                    DataLayout x = with(77, usage, 18, 88, 0, 0);
                    clause(x, 2, RANGE, LEAST, GREATEST);
                    lay(x, bytesOf(usage, 18));
                    for (int k = 0; k < 18; k++) {
                        boolean signed = (usage == 3 && k == 17) || (usage == 4 && k == 0);
                        int octet = text.charAt(k) + (signed && sign < 0 ? 64 : 0);
                        due("octet", x.octet(usage == 5 ? k + 1 : k, (byte) octet), 1);
                    }
                    if (usage > 4) {
                        due("sign", x.octet(usage == 5 ? 0 : 18, (byte) (sign < 0 ? 45 : 43)), 1);
                    }
                    long number = sign * Long.parseLong(text);
                    boolean is = number >= LEAST && number <= GREATEST;
                    by(is, number + " of usage " + usage, holds(x, 2), is ? 1 : 0);
                }
            }
        }
        for (int sign = 12; sign <= 15; sign++) {
            DataLayout x = with(77, 7, 18, 88, 0, 0);
            clause(x, 2, RANGE, LEAST, LEAST);
            lay(x, 10);
            int[] octets = {0, 0, 0, 0, 0x02, 0x14, 0x74, 0x83, 0x64, 0x80 + sign};
            for (int k = 0; k < 10; k++) {
                due("octet", x.octet(k, (byte) octets[k]), 1);
            }
            by(sign == 13, "packed, signed by " + sign, holds(x, 2), sign == 13 ? 1 : sign == 14 ? NO_NUMBER : 0);
            due("octet", x.octet(0, (byte) 0xf0), 1);
            by(sign == 13, "one too many ahead", holds(x, 2), sign == 13 ? 1 : sign == 14 ? NO_NUMBER : 0);
            due("octet", x.octet(0, (byte) 0x01), 1);
            out("far away", holds(x, 2), sign == 14 ? NO_NUMBER : 0);
        }
    }

    // ---- Promise 17

    private static void promiseCount() {
        says("Promise 17: what = 0 items, 1 records, 2 tables, 3 slack bytes ahead of items (of first entries) in all,"
                + " 4 bytes (both NONE when it is not laid out); NONE for others.");
        DataLayout x = with(1, 0, 0, 2, 1, 1, 2, 0, 0, 3, 1, 1, 3, 8, 4, 88, 0, 0, 2, 10, 0, 66, 0, 0, 77, 1, 1);
        clause(x, 3, TABLE, 3, 0);
        clause(x, 5, SYNC, 0, 0);
        clause(x, 6, RANGE, 0, 0);
        clause(x, 7, SYNC, 0, 0);
        clause(x, 7, DEPENDS, 0, 2);
        clause(x, 8, PART, 2, 2);
        int[] unlaid = {9, 2, 2, -1, -1};
        int[] laid = {9, 2, 2, 1 + 1 + 2, 33};
        for (int what = 0; what <= 4; what++) {
            by(what < 3, "count(" + what + "), not laid out", x.count(what), unlaid[what]);
        }
        lay(x, 33);
        for (int what = 0; what <= 4; what++) {
            in("count(" + what + ")", x.count(what), laid[what]);
        }
        int[] others = {-1, 5, -2, 6, LEAST, GREATEST, 256, 65536};
        for (int what : others) {
            out("count(" + what + ")", x.count(what), -1);
        }
        due("depending", x.depending(7, 0), 1);
        in("bytes with none now", x.count(4), 33);
        in("slack with none now", x.count(3), 4);
        DataLayout y = new DataLayout();
        out("bytes at first", y.count(4), -1);
        out("slack at first", y.count(3), -1);
        lay(y, 0);
        in("bytes of nothing", y.count(4), 0);
        in("slack of nothing", y.count(3), 0);
    }

    // ---- the whole of it

    private static void theWholeOfIt() {
        says("An object is used for at most 512 calls after it has been made");
        DataLayout x = new DataLayout();
        due("item", x.item(1, 0, 0), 1);
        for (int i = 2; i <= 120; i++) {
            due("item", x.item(5, 8, 18), i);
        }
        for (int i = 2; i <= 120; i++) {
            due("clause", x.clause(i, SYNC, 0, 0), 1);
        }
        for (int i = 2; i <= 120; i++) {
            due("clause", x.clause(i, VALUE, -i, 0), 1);
        }
        due("lay", x.lay(), 119 * 8);
        for (int i = 2; i <= 120; i++) {
            in("the last byte of " + i, at(x, 8 * i - 9), (byte) -i);
        }
        for (int i = 0; i < 32; i++) {
            in("lay again", x.lay(), 119 * 8);
        }
        in("the 511th call", x.count(0), 120);
        in("the 512th call", at(x, 0), -1);
        // what later calls answer is free, so there is nothing to ask beyond
        beyond = 1;
        says("Promise 1: A new object: it has nothing of others");
        DataLayout a = with(77, 1, 2);
        DataLayout b = with(77, 1, 2, 77, 1, 1);
        lay(a, 2);
        lay(b, 9);
        due("octet", a.octet(0, (byte) 7), 1);
        in("in the one", at(a, 0), 7);
        out("not in the other", at(b, 0), 32);
        a.checks(false);
        DataLayout c = with(1, 0, 0, 5, 1, 1);
        clause(c, 2, TABLE, 1, 0);
        lay(c, 1);
        out("looked at in another one", subscript(c, 2, 2, 0, 0), -6);
    }
}
