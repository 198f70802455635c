// For each promise of the document: ordinary inputs, the edges that it names, and wrong inputs.
public final class DataLayoutPromises {
    private static int wrong = 0;
    private static int asked = 0;

    private static void due(String call, long got, long want) {
        asked++;
        if (got != want) {
            wrong++;
            System.out.println(call + " answered " + got + ", due is " + want);
        }
    }

    /** What subscript answers, or -100 when it throws what the document names. */
    private static int sub(DataLayout x, int item, int a, int b, int c) {
        try {
            return x.subscript(item, a, b, c);
        } catch (ArrayIndexOutOfBoundsException e) {
            return -100;
        }
    }

    /** What at answers, or -1000 when it throws what the document names. */
    private static int at(DataLayout x, int i) {
        try {
            return x.at(i);
        } catch (ArrayIndexOutOfBoundsException e) {
            return -1000;
        }
    }

    /** 1 holds, 0 holds not, -1 IllegalArgumentException, -2 IllegalStateException. */
    private static int holds(DataLayout x, int item) {
        try {
            return x.holds(item) ? 1 : 0;
        } catch (IllegalArgumentException e) {
            return -1;
        } catch (IllegalStateException e) {
            return -2;
        }
    }

    private static void bytes(String what, DataLayout x, int from, int... want) {
        for (int k = 0; k < want.length; k++) {
            due(what + ", byte " + (from + k), at(x, from + k), (byte) want[k]);
        }
    }

    private static DataLayout items(int... levelUsageSize) {
        DataLayout x = new DataLayout();
        for (int k = 0; k < levelUsageSize.length; k += 3) {
            due("item " + levelUsageSize[k] + ", " + levelUsageSize[k + 1] + ", " + levelUsageSize[k + 2],
                    x.item(levelUsageSize[k], levelUsageSize[k + 1], levelUsageSize[k + 2]), k / 3 + 1);
        }
        return x;
    }

    public static void main(String[] args) {
        newObject();
        itemNumbers();
        itemPlaces();
        itemLimit();
        clauseRefusals();
        clauseTables();
        clauseValues();
        clauseRanges();
        clauseParts();
        deepestLevel();
        layBytes();
        layUsages();
        layWrongItems();
        layWrongParts();
        layWrongRedefinitions();
        layExternals();
        layTooLong();
        layAligned();
        layAgain();
        placeAndSize();
        subscripts();
        checks();
        depending();
        redefines();
        redefinesRecords();
        refer();
        slack();
        external();
        atAndOctet();
        holdsBySigns();
        holdsPackedAndBinary();
        holdsElsewhere();
        count();
        layOffWhenTold();
        System.out.println(asked + " answers asked, " + wrong + " of them wrong");
        if (wrong != 0) {
            System.exit(1);
        }
    }

    private static void newObject() {
        DataLayout x = new DataLayout();
        due("1 items", x.count(0), 0);
        due("1 records", x.count(1), 0);
        due("1 tables", x.count(2), 0);
        due("1 slack", x.count(3), -1);
        due("1 bytes", x.count(4), -1);
        due("1 place", x.place(1), -2);
        due("1 at", at(x, 0), -1000);
        due("1 looked at so far", x.checks(true), 0);
        DataLayout y = items(1, 0, 0, 5, 1, 1);
        due("1 table", y.clause(2, 0, 2, 0), 1);
        due("1 lay", y.lay(), 2);
        due("1 subscripts are looked at", sub(y, 2, 3, 0, 0), -6);
        due("1 two objects have nothing in common", x.count(0), 0);
    }

    private static void itemNumbers() {
        DataLayout x = new DataLayout();
        int[] wrongLevels = {0, -1, 50, 65, 67, 76, 78, 87, 89, Integer.MAX_VALUE, Integer.MIN_VALUE};
        for (int level : wrongLevels) {
            due("2 level " + level, x.item(level, 1, 1), -4);
        }
        int[] usages = {0, 1, 2, 3, 4, 5, 6, 7, 8, 9, 10, 11};
        int[] least = {0, 1, 1, 1, 1, 1, 1, 1, 1, 0, 0, 0};
        int[] most = {0, 200, 100, 18, 18, 18, 18, 18, 18, 0, 0, 0};
        int number = 0;
        for (int usage : usages) {
            due("2 size too small for usage " + usage, x.item(1, usage, least[usage] - 1), -4);
            due("2 size too great for usage " + usage, x.item(1, usage, most[usage] + 1), -4);
            due("2 least size for usage " + usage, x.item(1, usage, least[usage]), ++number);
            due("2 greatest size for usage " + usage, x.item(77, usage, most[usage]), ++number);
        }
        due("2 usage -1", x.item(1, -1, 0), -4);
        due("2 usage 12", x.item(1, 12, 0), -4);
        due("2 level 66 is of usage 0", x.item(66, 1, 1), -4);
        due("2 level 88 is of usage 0", x.item(88, 3, 1), -4);
        due("2 level 88 is of size 0", x.item(88, 0, 1), -4);
        due("2 refused items are none", x.count(0), number);
    }

    private static void itemPlaces() {
        DataLayout x = new DataLayout();
        due("2 no record: 2", x.item(2, 1, 1), -3);
        due("2 no record: 49", x.item(49, 1, 1), -3);
        due("2 no record: 66", x.item(66, 0, 0), -3);
        due("2 no record: 88", x.item(88, 0, 0), -3);
        due("2 a number by itself", x.item(77, 3, 2), 1);
        due("2 none is below 77", x.item(2, 1, 1), -3);
        due("2 no part of 77", x.item(66, 0, 0), -3);
        due("2 a name of 77", x.item(88, 0, 0), 2);
        due("2 another name of 77", x.item(88, 0, 0), 3);
        due("2 still none below 77", x.item(2, 1, 1), -3);
        due("2 a record of one text", x.item(1, 1, 4), 4);
        due("2 none is below a text", x.item(2, 1, 1), -3);
        due("2 no part of a text", x.item(66, 0, 0), -3);
        due("2 no name of a text", x.item(88, 0, 0), -3);
        due("2 a record", x.item(1, 0, 0), 5);
        due("2 no name of a group", x.item(88, 0, 0), -3);
        due("2 a group", x.item(5, 0, 0), 6);
        due("2 below the group", x.item(10, 8, 4), 7);
        due("2 a name", x.item(88, 0, 0), 8);
        due("2 below a number", x.item(11, 1, 1), -3);
        due("2 another level below the group", x.item(9, 1, 1), -3);
        due("2 another level below the record", x.item(4, 1, 1), -3);
        due("2 the same level below the group", x.item(10, 9, 0), 9);
        due("2 no name of a float", x.item(88, 0, 0), -3);
        due("2 the same level below the record", x.item(5, 11, 0), 10);
        due("2 a part", x.item(66, 0, 0), 11);
        due("2 nothing but parts behind one", x.item(5, 1, 1), -3);
        due("2 no name of a part", x.item(88, 0, 0), -3);
        due("2 another part", x.item(66, 0, 0), 12);
        due("2 a new record behind parts", x.item(1, 0, 0), 13);
        due("2 level 49", x.item(49, 1, 1), 14);
        due("2 -4 comes ahead of -3", x.item(7, 1, 0), -4);
        due("2 all of them", x.count(0), 14);
    }

    private static void itemLimit() {
        DataLayout x = new DataLayout();
        for (int i = 1; i <= 120; i++) {
            due("2 item " + i, x.item(77, 1, 1), i);
        }
        due("2 one too many", x.item(77, 1, 1), -1);
        due("2 -4 even so", x.item(77, 1, 0), -4);
        due("2 -3 even so", x.item(2, 1, 1), -3);
        due("2 120 items", x.count(0), 120);
        due("2 120 items laid", x.lay(), 119 * 8 + 1);
        due("2 the last one is there", x.place(120), 119 * 8);
        due("2 none behind it", x.place(121), -2);
        DataLayout y = new DataLayout();
        due("2 deepest: 1", y.item(1, 0, 0), 1);
        for (int level = 2; level <= 48; level++) {
            due("2 deepest: " + level, y.item(level, 0, 0), level);
        }
        due("2 deepest: 49", y.item(49, 1, 3), 49);
        due("2 deepest laid", y.lay(), 3);
        due("2 deepest size", y.size(1), 3);
    }

    private static void clauseRefusals() {
        DataLayout x = items(1, 0, 0, 5, 1, 1, 5, 8, 4, 88, 0, 0, 66, 0, 0);
        due("3 item 0", x.clause(0, 0, 1, 0), -2);
        due("3 item 6", x.clause(6, 0, 1, 0), -2);
        due("3 no item, no kind", x.clause(6, 9, 1, 0), -2);
        due("3 kind -1", x.clause(2, -1, 1, 1), -4);
        due("3 kind 6", x.clause(2, 6, 1, 1), -4);
        due("3 0 entries", x.clause(2, 0, 0, 0), -4);
        due("3 1000 entries", x.clause(2, 0, 1000, 0), -4);
        due("3 -1 .. 2 entries", x.clause(2, 1, -1, 2), -4);
        due("3 3 .. 2 entries", x.clause(2, 1, 3, 2), -4);
        due("3 0 .. 0 entries", x.clause(2, 1, 0, 0), -4);
        due("3 0 .. 1000 entries", x.clause(2, 1, 0, 1000), -4);
        due("3 a range turned", x.clause(4, 4, 2, 1), -4);
        due("3 a range turned, of no name", x.clause(2, 4, 2, 1), -4);
        due("3 a part from none", x.clause(5, 5, 0, 2), -2);
        due("3 a part to none", x.clause(5, 5, 2, 6), -2);
        due("3 a part to none, of no part", x.clause(2, 5, 2, 6), -2);
        due("3 a text synchronised", x.clause(2, 2, 0, 0), 0);
        due("3 a group synchronised", x.clause(1, 2, 0, 0), 0);
        due("3 a binary synchronised", x.clause(3, 2, 0, 0), 1);
        due("3 and again", x.clause(3, 2, 0, 0), 0);
        DataLayout y = items(77, 7, 3, 77, 8, 9, 77, 9, 0, 77, 10, 0, 1, 11, 0);
        due("3 packed synchronised", y.clause(1, 2, 0, 0), 0);
        for (int i = 2; i <= 5; i++) {
            due("3 synchronised " + i, y.clause(i, 2, 0, 0), 1);
        }
    }

    private static void clauseTables() {
        DataLayout x = items(1, 0, 0, 2, 0, 0, 3, 0, 0, 4, 0, 0, 5, 1, 1, 66, 0, 0, 77, 3, 1, 88, 0, 0);
        due("3 a record is no table", x.clause(1, 0, 2, 0), 0);
        due("3 a part is no table", x.clause(6, 0, 2, 0), 0);
        due("3 77 is no table", x.clause(7, 0, 2, 0), 0);
        due("3 a name is no table", x.clause(8, 1, 0, 2), 0);
        due("3 innermost", x.clause(5, 0, 999, 0), 1);
        due("3 has it", x.clause(5, 0, 2, 0), 0);
        due("3 has it, and can't depend", x.clause(5, 1, 1, 2), 0);
        due("3 second", x.clause(3, 0, 1, -7), 1);
        due("3 none that depends with one around it", x.clause(4, 1, 1, 2), 0);
        due("3 outermost", x.clause(2, 0, 2, 0), 1);
        due("3 a fourth between them", x.clause(4, 0, 2, 0), 0);
        due("3 three tables", x.count(2), 3);

        DataLayout y = items(1, 0, 0, 2, 0, 0, 3, 0, 0, 4, 0, 0, 5, 1, 1);
        due("3 depends", y.clause(4, 1, 0, 999), 1);
        due("3 none around one that depends", y.clause(3, 0, 2, 0), 0);
        due("3 none that depends around one", y.clause(2, 1, 0, 2), 0);
        due("3 none that depends below one", y.clause(5, 1, 1, 1), 0);
        due("3 one in one that depends", y.clause(5, 0, 2, 0), 1);
        due("3 b entries at first", y.lay(), 999 * 2);

        DataLayout z = items(1, 0, 0, 2, 1, 2, 2, 1, 2, 2, 1, 2);
        due("3 redefines", z.redefines(3, 2), 1);
        due("3 one that is redefined is no table", z.clause(2, 0, 1, 0), 0);
        due("3 nor one that depends", z.clause(2, 1, 0, 1), 0);
        due("3 one that redefines may be one", z.clause(3, 0, 2, 0), 1);
        due("3 another one, too", z.clause(4, 1, 0, 1), 1);

        DataLayout w = items(1, 0, 0, 2, 0, 0, 3, 0, 0, 4, 0, 0, 5, 0, 0, 6, 1, 1, 5, 1, 1);
        due("3 one", w.clause(3, 0, 2, 0), 1);
        due("3 two", w.clause(5, 0, 2, 0), 1);
        due("3 three", w.clause(6, 0, 2, 0), 1);
        due("3 four, from outside", w.clause(2, 0, 2, 0), 0);
        due("3 beside it there is room", w.clause(7, 0, 2, 0), 1);
    }

    private static void clauseValues() {
        DataLayout x = items(1, 0, 0, 5, 3, 3, 5, 8, 1, 5, 7, 10, 5, 1, 5, 5, 9, 0, 5, 4, 9);
        due("3 1000 in 3 digits", x.clause(2, 3, 1000, 0), 0);
        due("3 -1000 in 3 digits", x.clause(2, 3, -1000, 0), 0);
        due("3 -999 in 3 digits", x.clause(2, 3, -999, 0), 1);
        due("3 has a value", x.clause(2, 3, 1, 0), 0);
        due("3 10 in a digit", x.clause(3, 3, 10, 0), 0);
        due("3 9 in a digit", x.clause(3, 3, 9, 0), 1);
        due("3 the least int in 10 digits", x.clause(4, 3, Integer.MIN_VALUE, 0), 1);
        due("3 a text has none", x.clause(5, 3, 1, 0), 0);
        due("3 a float has none", x.clause(6, 3, 1, 0), 0);
        due("3 a group has none", x.clause(1, 3, 1, 0), 0);
        due("3 the least int in 9 digits", x.clause(7, 3, Integer.MIN_VALUE, 0), 0);
        due("3 the greatest int in 9 digits", x.clause(7, 3, Integer.MAX_VALUE, 0), 0);
        due("3 0", x.clause(7, 3, 0, 0), 1);
        due("3 0 is a value", x.clause(7, 3, 1, 0), 0);
        due("3 lay", x.lay(), 3 + 2 + 6 + 5 + 4 + 9);
        bytes("3 the least int", x, 5, 0x02, 0x14, 0x74, 0x83, 0x64, 0x8d);

        DataLayout y = items(1, 0, 0, 5, 1, 4, 5, 0, 0, 6, 3, 2, 6, 0, 0, 7, 3, 1);
        due("3 redefines", y.redefines(3, 2), 1);
        due("3 no value below one that redefines", y.clause(4, 3, 1, 0), 0);
        due("3 no value deep below one that redefines", y.clause(6, 3, 1, 0), 0);
    }

    private static void clauseRanges() {
        DataLayout x = items(77, 3, 1, 88, 0, 0);
        due("3 a number has no ranges", x.clause(1, 4, 1, 2), 0);
        for (int k = 1; k <= 8; k++) {
            due("3 range " + k, x.clause(2, 4, k, k), 1);
        }
        due("3 a ninth range", x.clause(2, 4, 9, 9), 0);
        due("3 a name has no value", x.clause(2, 3, 1, 0), 0);
        due("3 a name renames nothing", x.clause(2, 5, 1, 1), 0);
        due("3 lay", x.lay(), 1);
        for (int digit = 0; digit <= 9; digit++) {
            due("3 octet", x.octet(0, (byte) (48 + digit)), 1);
            due("3 eight ranges hold " + digit, holds(x, 2), digit >= 1 && digit <= 8 ? 1 : 0);
        }
    }

    private static void clauseParts() {
        DataLayout x = items(1, 0, 0, 5, 1, 1, 1, 0, 0, 5, 0, 0, 6, 3, 1, 88, 0, 0, 6, 1, 2, 5, 1, 3,
                66, 0, 0, 66, 0, 0, 66, 0, 0);
        due("3 from another record", x.clause(9, 5, 2, 5), 0);
        due("3 from the record itself", x.clause(9, 5, 3, 5), 0);
        due("3 from a name", x.clause(9, 5, 6, 7), 0);
        due("3 to a name", x.clause(9, 5, 5, 6), 0);
        due("3 to a part", x.clause(9, 5, 5, 9), 0);
        due("3 turned", x.clause(9, 5, 7, 5), 0);
        due("3 to one below", x.clause(9, 5, 4, 5), 0);
        due("3 no part", x.clause(8, 5, 5, 5), 0);
        due("3 from one below to one behind", x.clause(9, 5, 5, 8), 1);
        due("3 has it", x.clause(9, 5, 5, 5), 0);
        due("3 a group alone", x.clause(10, 5, 4, 4), 1);
        due("3 one alone", x.clause(11, 5, 7, 7), 1);
        due("3 of the name", x.clause(6, 4, 1, 2), 1);
        due("3 lay", x.lay(), 14);
        due("3 place of a part", x.place(9), 8);
        due("3 size of a part", x.size(9), 6);
        due("3 place of a group's part", x.place(10), 8);
        due("3 size of a group's part", x.size(10), 3);
        due("3 place of one's part", x.place(11), 9);
        due("3 size of one's part", x.size(11), 2);
    }

    private static void deepestLevel() {
        DataLayout x = items(1, 0, 0, 49, 1, 2, 49, 1, 2, 49, 1, 1, 66, 0, 0);
        due("3 level 49 is renamed", x.clause(5, 5, 2, 2), 1);
        due("3 level 49 is a table", x.clause(4, 0, 3, 0), 1);
        due("10 level 49 redefines", x.redefines(3, 2), 1);
        due("4 level 49 laid", x.lay(), 5);
        DataLayout y = items(1, 0, 0, 2, 1, 2, 2, 1, 2, 2, 1, 1, 66, 0, 0);
        due("3 level 2 is renamed", y.clause(5, 5, 2, 2), 1);
        due("3 level 2 is a table", y.clause(4, 0, 3, 0), 1);
        due("10 level 2 redefines", y.redefines(3, 2), 1);
        due("4 level 2 laid", y.lay(), 5);
    }

    private static void layBytes() {
        DataLayout x = items(1, 0, 0, 5, 1, 2, 5, 2, 2, 5, 3, 2, 5, 4, 2, 5, 5, 2, 5, 6, 2, 5, 7, 2, 5, 7, 3,
                5, 8, 4, 5, 8, 5, 5, 8, 10, 5, 9, 0, 5, 10, 0, 5, 11, 0);
        due("4 without values", x.lay(), 2 + 4 + 2 + 2 + 3 + 3 + 2 + 2 + 2 + 4 + 8 + 4 + 8 + 4);
        bytes("4 without values", x, 0, 32, 32, 0, 32, 0, 32, 48, 48, 48, 48, 43, 48, 48, 48, 48, 43,
                0, 12, 0, 12, 0, 0, 0, 0, 0, 0);
        for (int i = 26; i < 50; i++) {
            due("4 zero", at(x, i), 0);
        }
        for (int i = 4; i <= 12; i++) {
            due("4 a value", x.clause(i, 3, i % 2 == 0 ? -12 : 34, 0), 1);
        }
        due("4 with values", x.lay(), 50);
        bytes("4 with values", x, 6, 48 + 1, 48 + 2 + 64, 51, 52, 45, 49, 50, 51, 52, 43,
                0x01, 0x2d, 0x03, 0x4c, 0xff, 0xf4, 0, 0, 0, 34,
                0xff, 0xff, 0xff, 0xff, 0xff, 0xff, 0xff, 0xf4);
        DataLayout y = items(77, 4, 3, 77, 4, 1, 77, 3, 1);
        due("4 values", y.clause(1, 3, -105, 0) + y.clause(2, 3, -9, 0) + y.clause(3, 3, -1, 0), 3);
        due("4 records at multiples of 8", y.lay(), 17);
        bytes("4 signs in first bytes", y, 0, 49 + 64, 48, 53, 0, 0, 0, 0, 0, 57 + 64, 0, 0, 0, 0, 0, 0, 0, 49 + 64);

        DataLayout z = items(1, 0, 0, 2, 0, 0, 3, 3, 1, 3, 8, 2, 3, 0, 0, 4, 1, 1, 4, 7, 1, 2, 2, 1);
        due("4 tables", z.clause(2, 0, 2, 0) + z.clause(5, 0, 2, 0) + z.clause(7, 0, 2, 0), 3);
        due("4 values in tables", z.clause(3, 3, 7, 0) + z.clause(4, 3, 58, 0) + z.clause(7, 3, -3, 0), 3);
        due("4 tables laid", z.lay(), 20);
        bytes("4 in all entries", z, 0, 55, 0, 58, 32, 0x3d, 0x3d, 32, 0x3d, 0x3d,
                55, 0, 58, 32, 0x3d, 0x3d, 32, 0x3d, 0x3d, 0, 32);
        due("4 no byte behind them", at(z, 20), -1000);
    }

    private static void layUsages() {
        int[][] usageSizeBytes = {{1, 1, 1}, {1, 200, 200}, {2, 1, 2}, {2, 100, 200}, {3, 18, 18}, {4, 1, 1},
            {5, 1, 2}, {5, 18, 19}, {6, 3, 4}, {7, 1, 1}, {7, 2, 2}, {7, 3, 2}, {7, 4, 3}, {7, 18, 10},
            {8, 1, 2}, {8, 4, 2}, {8, 5, 4}, {8, 9, 4}, {8, 10, 8}, {8, 18, 8}, {9, 0, 4}, {10, 0, 8}, {11, 0, 4}};
        for (int[] row : usageSizeBytes) {
            DataLayout x = items(77, row[0], row[1]);
            due("4 bytes of usage " + row[0] + ", " + row[1], x.lay(), row[2]);
            due("6 size of usage " + row[0] + ", " + row[1], x.size(1), row[2]);
        }
    }

    private static void layWrongItems() {
        DataLayout empty = new DataLayout();
        due("4 nothing", empty.lay(), 0);
        due("4 nothing is laid out", empty.count(4), 0);
        due("4 a record without items", items(1, 0, 0).lay(), -11);
        due("4 a 77 without items", items(77, 0, 0).lay(), -11);
        due("4 a group without items", items(1, 0, 0, 5, 1, 1, 5, 0, 0, 5, 1, 1).lay(), -13);
        due("4 a part is not below", items(1, 0, 0, 66, 0, 0).lay(), -11);
        due("4 a part without its clause", items(1, 0, 0, 5, 1, 1, 66, 0, 0).lay(), -13);
        due("4 a name without its clause", items(77, 3, 1, 88, 0, 0).lay(), -12);
        due("4 the first one", items(77, 3, 1, 88, 0, 0, 1, 0, 0).lay(), -12);

        DataLayout x = items(1, 0, 0, 5, 0, 0, 6, 1, 2, 6, 3, 1, 88, 0, 0, 66, 0, 0);
        due("4 depends", x.clause(2, 1, 1, 3), 1);
        due("4 a range", x.clause(5, 4, 0, 0), 1);
        due("4 parts behind", x.lay(), -16);
        DataLayout y = items(1, 0, 0, 5, 0, 0, 6, 1, 2, 6, 3, 1, 88, 0, 0, 1, 1, 5);
        due("4 depends", y.clause(2, 1, 1, 3), 1);
        due("4 a range", y.clause(5, 4, 0, 0), 1);
        due("4 it is the last one", y.lay(), 16 + 5);
        DataLayout z = items(1, 0, 0, 5, 0, 0, 6, 1, 2, 5, 1, 1);
        due("4 depends", z.clause(3, 1, 0, 3), 1);
        due("4 it is not the last one", z.lay(), -13);
        DataLayout w = items(1, 0, 0, 5, 0, 0, 6, 1, 2, 6, 1, 1, 1, 1, 1);
        due("4 depends", w.clause(3, 1, 0, 3), 1);
        due("4 nor there", w.lay(), -13);
    }

    private static void layWrongParts() {
        int[] tree = {1, 0, 0, 5, 0, 0, 6, 1, 2, 6, 0, 0, 7, 1, 1, 7, 1, 1, 5, 1, 3, 5, 0, 0, 6, 1, 2, 66, 0, 0};
        for (int table = 2; table <= 9; table++) {
            DataLayout x = items(tree);
            due("4 part", x.clause(10, 5, 5, 7), 1);
            due("4 table", x.clause(table, 0, 1, 0), 1);
            boolean met = table != 3 && table < 8;
            due("4 a part with a table at " + table, x.lay(), met ? -20 : 9);
        }
        DataLayout y = items(tree);
        due("4 part", y.clause(10, 5, 3, 8), 1);
        due("4 table", y.clause(9, 0, 1, 0), 1);
        due("4 a part with a table below its end", y.lay(), -20);
        DataLayout z = items(1, 0, 0, 5, 1, 4, 5, 0, 0, 6, 1, 1, 6, 1, 2, 5, 1, 1, 66, 0, 0, 66, 0, 0);
        due("4 redefines", z.redefines(3, 2), 1);
        due("4 a part over one that redefines", z.clause(7, 5, 2, 6), 1);
        due("4 a part that begins in one", z.clause(8, 5, 5, 6), 1);
        due("4 lay", z.lay(), -18);
        DataLayout w = items(1, 0, 0, 5, 1, 4, 5, 0, 0, 6, 1, 1, 6, 1, 2, 5, 1, 1, 66, 0, 0, 66, 0, 0);
        due("4 redefines", w.redefines(3, 2), 1);
        due("4 a part over one that redefines", w.clause(7, 5, 2, 6), 1);
        due("4 a part that ends with one", w.clause(8, 5, 2, 3), 1);
        due("4 lay", w.lay(), -18);
        DataLayout v = items(1, 0, 0, 5, 1, 4, 5, 0, 0, 6, 1, 1, 6, 1, 2, 5, 1, 1, 66, 0, 0);
        due("4 redefines", v.redefines(3, 2), 1);
        due("4 a part over one that redefines", v.clause(7, 5, 2, 6), 1);
        due("4 lay", v.lay(), 5);
        due("4 its size", v.size(7), 5);
        DataLayout u = items(1, 1, 4, 1, 0, 0, 5, 1, 1, 66, 0, 0);
        due("4 part of a record", u.clause(4, 5, 3, 3), 1);
        due("4 that redefines", u.redefines(2, 1), 1);
        due("4 lies in one that redefines", u.lay(), -14);
    }

    private static void layWrongRedefinitions() {
        DataLayout x = items(1, 0, 0, 5, 1, 3, 5, 1, 4);
        due("4 redefines", x.redefines(3, 2), 1);
        due("4 longer", x.lay(), -13);
        DataLayout y = items(1, 0, 0, 5, 1, 6, 5, 1, 2, 5, 1, 1);
        due("4 redefines", y.redefines(3, 2), 1);
        due("4 a table of three", y.clause(3, 0, 3, 0), 1);
        due("4 as long", y.lay(), 7);
        due("4 behind the other one", y.place(4), 6);
        DataLayout z = items(1, 0, 0, 5, 1, 6, 5, 1, 2, 5, 1, 1);
        due("4 redefines", z.redefines(3, 2), 1);
        due("4 a table of four", z.clause(3, 0, 4, 0), 1);
        due("4 longer with its entries", z.lay(), -13);
        DataLayout w = items(1, 0, 0, 5, 1, 1, 5, 1, 8, 5, 8, 4, 5, 0, 0, 6, 8, 4);
        due("4 redefine", w.redefines(4, 3) + w.redefines(5, 3), 2);
        due("4 a synchronised one below", w.clause(6, 2, 0, 0), 1);
        due("4 a group begins there all the same", w.lay(), 9);
        due("4 where the other one does", w.place(5), 1);
        due("4 the synchronised one", w.place(6), 2);
        due("4 with slack in the group", w.size(5), 3);
        due("4 a synchronised one", w.clause(4, 2, 0, 0), 1);
        due("4 would begin elsewhere", w.lay(), -14);
        DataLayout v = items(1, 0, 0, 5, 1, 1, 5, 1, 8, 5, 0, 0, 6, 8, 4);
        due("4 redefines", v.redefines(4, 3), 1);
        due("4 a table of synchronised ones", v.clause(5, 2, 0, 0) + v.clause(4, 0, 2, 0), 2);
        due("4 would begin elsewhere", v.lay(), -14);
        DataLayout u = items(1, 1, 3, 1, 1, 9, 77, 1, 1);
        due("4 redefines", u.redefines(2, 1), 1);
        due("4 a record may be longer", u.lay(), 17);
        due("4 begins where the other one does", u.place(2), 0);
        bytes("4 bytes by the other one", u, 0, 32, 32, 32, 0, 0, 0, 0, 0, 0);
        DataLayout t = items(1, 0, 0, 5, 0, 0, 6, 7, 3, 6, 1, 2, 5, 1, 4, 5, 3, 2);
        due("4 redefine", t.redefines(5, 2) + t.redefines(6, 2), 2);
        due("4 twice redefined", t.lay(), 4);
        bytes("4 bytes by the first one", t, 0, 0, 12, 32, 32);
        due("4 both begin there", t.place(5) + t.place(6), 0);
    }

    private static void layExternals() {
        DataLayout x = items(1, 3, 4, 1, 1, 9, 1, 1, 4, 1, 1, 9, 77, 1, 1);
        due("4 a value", x.clause(1, 3, -7, 0), 1);
        due("4 externals", x.external(1, 0) + x.external(3, 0) + x.external(4, 99) + x.external(2, 99), 4);
        due("4 lay", x.lay(), 25);
        due("4 where the first one is", x.place(3), 0);
        due("4 the first one by items", x.place(2), 8);
        due("4 and the other one", x.place(4), 8);
        due("4 behind all", x.place(5), 24);
        bytes("4 bytes by the first one", x, 0, 48, 48, 48, 55 + 64, 0);
        DataLayout y = items(1, 1, 4, 1, 1, 5, 1, 1, 3);
        due("4 externals", y.external(1, 7) + y.external(2, 7) + y.external(3, 8), 3);
        due("4 longer than the first one", y.lay(), -12);
        DataLayout z = items(1, 1, 4, 1, 1, 5, 1, 1, 3);
        due("4 externals", z.external(1, 7) + z.external(3, 7), 2);
        due("4 shorter than the first one", z.lay(), -13);
    }

    private static void layTooLong() {
        DataLayout x = items(1, 0, 0, 5, 1, 200, 5, 1, 20);
        due("4 tables", x.clause(2, 0, 99, 0) + x.clause(3, 0, 10, 0), 2);
        due("4 20000 bytes", x.lay(), 20000);
        due("4 the last one", at(x, 19999), 32);
        due("4 none behind it", at(x, 20000), -1000);
        due("15 the last one", x.octet(19999, (byte) 7), 1);
        due("4 one more", x.item(77, 1, 1), 4);
        due("4 too long", x.lay(), -9);
        due("4 not laid out then", x.count(4), -1);
        DataLayout y = items(1, 0, 0, 2, 0, 0, 3, 0, 0, 4, 1, 200, 1, 0, 0);
        due("4 tables", y.clause(2, 0, 999, 0) + y.clause(3, 0, 999, 0) + y.clause(4, 0, 999, 0), 3);
        due("4 an item that isn't right comes first", y.lay(), -15);
        due("4 below it", y.item(2, 1, 1), 6);
        due("4 too long", y.lay(), -9);
        due("4 external", y.external(1, 1), 1);
        due("4 another one", y.external(5, 1), 1);
        due("4 not as long", y.lay(), -15);
    }

    private static void layAligned() {
        DataLayout x = items(1, 0, 0, 5, 1, 1, 5, 0, 0, 6, 0, 0, 7, 1, 1, 7, 8, 4, 6, 10, 0, 6, 1, 1, 5, 1, 1);
        due("4 synchronised", x.clause(6, 2, 0, 0) + x.clause(7, 2, 0, 0), 2);
        due("4 tables", x.clause(3, 0, 2, 0) + x.clause(4, 0, 3, 0), 2);
        due("4 lay", x.lay(), 8 + 2 * 32 + 1);
        due("4 outer table", x.place(3), 8);
        due("4 inner table", x.place(4), 8);
        due("4 synchronised in it", x.place(6), 10);
        due("4 behind the inner table", x.place(7), 24);
        due("4 entry of the outer one", x.size(3), 25);
        due("4 entry of the inner one", x.size(4), 4);
        due("4 behind the outer one", x.place(9), 72);
        due("4 slack of the outer one", x.slack(3), 7);
        due("4 slack in the inner one", x.slack(6), 1);
        due("4 slack behind the inner one", x.slack(7), 4);
        due("4 all slack", x.count(3), 12);
        due("4 by subscripts", sub(x, 6, 2, 3, 0), 10 + 32 + 8);

        DataLayout y = items(1, 0, 0, 5, 1, 1, 5, 8, 9, 5, 0, 0, 6, 1, 1, 6, 8, 9);
        due("4 synchronised", y.clause(3, 2, 0, 0) + y.clause(6, 2, 0, 0), 2);
        due("4 tables", y.clause(3, 0, 2, 0), 1);
        due("4 lay", y.lay(), 20);
        due("4 a table that is one", y.place(3), 4);
        due("4 a group that is no table", y.place(4), 12);
        due("4 slack in it", y.slack(6), 3);

        DataLayout z = items(1, 0, 0, 5, 1, 3, 5, 0, 0, 6, 8, 4, 6, 1, 1, 5, 1, 1);
        due("4 synchronised", z.clause(4, 2, 0, 0), 1);
        due("4 lay", z.lay(), 8);
        due("4 a group begins just behind", z.place(3), 3);
        due("4 its first one later", z.place(4), 4);
        due("4 its size", z.size(3), 4);
        due("4 slack", z.slack(3) * 10 + z.slack(4), 1);
        due("4 a table of one entry", z.clause(3, 0, 1, 0), 1);
        due("4 lay again", z.lay(), 9);
        due("4 the table's begin", z.place(3), 4);
        due("4 its entry", z.size(3), 3);
        due("4 what it takes", z.place(6), 8);
    }

    private static void layAgain() {
        DataLayout x = items(77, 1, 3);
        due("4 lay", x.lay(), 3);
        due("4 octet", x.octet(1, (byte) 65), 1);
        due("4 it stays", at(x, 1), 65);
        due("4 lay again", x.lay(), 3);
        due("4 it is a space again", at(x, 1), 32);
        DataLayout y = items(1, 0, 0, 5, 1, 1, 77, 1, 1);
        due("4 depends", y.clause(2, 1, 0, 10), 1);
        due("9 none now", y.depending(2, 0), 1);
        due("4 with all that there may be", y.lay(), 17);
        due("6 none now", y.size(1), 0);
        due("5 the next record", y.place(3), 16);
        due("9 ten now", y.depending(2, 10), 1);
        due("6 ten now", y.size(1), 10);
    }

    private static void placeAndSize() {
        DataLayout x = items(1, 0, 0, 5, 3, 3, 88, 0, 0, 5, 1, 2, 77, 1, 5);
        due("5 not laid out", x.place(1), -5);
        due("6 not laid out", x.size(1), -5);
        due("5 a name, not laid out", x.place(3), -4);
        due("6 a name, not laid out", x.size(3), -4);
        due("5 no item 0", x.place(0), -2);
        due("5 no item 6", x.place(6), -2);
        due("6 no item -1", x.size(-1), -2);
        due("6 no item 6", x.size(Integer.MAX_VALUE), -2);
        due("5 a range", x.clause(3, 4, 1, 1), 1);
        due("5 a table", x.clause(4, 0, 3, 0), 1);
        due("5 lay", x.lay(), 21);
        due("5 a name", x.place(3), -4);
        due("6 a name", x.size(3), -4);
        due("5 first", x.place(1) * 100 + x.place(2), 0);
        due("5 second", x.place(4), 3);
        due("5 next record", x.place(5), 16);
        due("6 record", x.size(1), 9);
        due("6 one entry", x.size(4), 2);
        DataLayout y = items(1, 0, 0, 5, 1, 10, 5, 0, 0, 6, 1, 1, 6, 1, 2);
        due("6 redefines", y.redefines(3, 2), 1);
        due("6 depends", y.clause(5, 1, 0, 4), 1);
        due("6 lay", y.lay(), 10);
        due("6 two now", y.depending(5, 2), 1);
        due("6 of the redefining one", y.size(3), 5);
        due("6 of all, redefining ones aside", y.size(1), 10);
        due("6 of an entry", y.size(5), 2);
        DataLayout z = items(1, 0, 0, 5, 1, 3, 5, 0, 0, 6, 0, 0, 7, 8, 9, 7, 1, 1);
        due("6 synchronised", z.clause(5, 2, 0, 0), 1);
        due("6 depends", z.clause(4, 1, 0, 5), 1);
        due("6 lay", z.lay(), 44);
        due("6 group around it", z.size(3), 41);
        due("6 three now", z.depending(4, 3), 1);
        due("6 group around it", z.size(3), 25);
        due("6 entry", z.size(4), 5);
        due("6 record", z.size(1), 28);
    }

    private static void subscripts() {
        DataLayout x = items(1, 0, 0, 2, 0, 0, 3, 0, 0, 4, 1, 5, 3, 3, 1, 88, 0, 0, 66, 0, 0, 77, 1, 1);
        due("7 no item", sub(x, 9, 1, 1, 1), -2);
        due("7 no item 0", sub(x, 0, 1, 1, 1), -2);
        due("7 a name", sub(x, 6, 1, 1, 1), -4);
        due("7 a part", sub(x, 7, 1, 1, 1), -4);
        due("7 not laid out", sub(x, 1, 1, 1, 1), -5);
        due("7 tables", x.clause(2, 0, 2, 0) + x.clause(3, 0, 3, 0) + x.clause(4, 0, 4, 0), 3);
        due("7 a range", x.clause(6, 4, 1, 1), 1);
        due("7 a part needs none of them", x.lay(), -17);
        DataLayout y = items(1, 0, 0, 2, 0, 0, 3, 0, 0, 4, 1, 5, 3, 3, 1, 77, 1, 1);
        due("7 tables", y.clause(2, 0, 2, 0) + y.clause(3, 0, 3, 0) + y.clause(4, 0, 4, 0), 3);
        due("7 lay", y.lay(), 129);
        due("7 first", sub(y, 4, 1, 1, 1), 0);
        due("7 last", sub(y, 4, 2, 3, 4), 61 + 40 + 15);
        due("7 two of them", sub(y, 3, 2, 2, -5), 81);
        due("7 one of them", sub(y, 5, 2, 99, 99), 121);
        due("7 none of them", sub(y, 1, 0, 0, 0), 0);
        due("7 another record", sub(y, 6, 0, 0, 0), 128);
        due("7 first is 0", sub(y, 4, 0, 1, 1), -6);
        due("7 first is 3", sub(y, 4, 3, 1, 1), -6);
        due("7 second is 4", sub(y, 4, 1, 4, 1), -6);
        due("7 third is 5", sub(y, 4, 1, 1, 5), -6);
        due("7 third is least", sub(y, 4, 1, 1, Integer.MIN_VALUE), -6);
        y.checks(false);
        due("7 third is 5, not looked at", sub(y, 4, 1, 1, 5), 20);
        due("7 ahead of it, but within", sub(y, 4, 2, 1, -11), 1);
        due("7 up to the last byte", sub(y, 5, 2, 0, 0), 121);
        due("7 third that still fits", sub(y, 4, 1, 1, 25), 120);
        due("7 it would not end within", sub(y, 4, 1, 1, 26), -100);
        due("7 just fits", sub(y, 4, 2, 4, 1), 121);
        due("7 beyond", sub(y, 4, 3, 2, 1), -100);
        due("7 ahead of all", sub(y, 4, 0, 1, 1), -100);
        due("7 far beyond", sub(y, 4, Integer.MAX_VALUE, Integer.MAX_VALUE, Integer.MAX_VALUE), -100);
        due("7 far ahead", sub(y, 4, Integer.MIN_VALUE, 1, 1), -100);
        due("7 those not needed aren't looked at", sub(y, 6, 5, 5, 5), 128);
        DataLayout z = items(1, 0, 0, 5, 1, 2);
        due("7 depends", z.clause(2, 1, 1, 4), 1);
        due("7 lay", z.lay(), 8);
        due("7 two now", z.depending(2, 2), 1);
        due("7 second", sub(z, 2, 2, 0, 0), 2);
        due("7 third", sub(z, 2, 3, 0, 0), -6);
        z.checks(false);
        due("7 fourth, not looked at", sub(z, 2, 4, 0, 0), 6);
        due("7 fifth, not looked at", sub(z, 2, 5, 0, 0), -100);
        due("7 the whole of it", sub(z, 1, 5, 0, 0), 0);
    }

    private static void checks() {
        DataLayout x = items(1, 0, 0, 2, 0, 0, 3, 1, 1);
        due("8 tables", x.clause(2, 0, 2, 0) + x.clause(3, 0, 2, 0), 2);
        due("8 not laid out", sub(x, 3, 1, 1, 1), -5);
        due("8 lay", x.lay(), 4);
        due("8 none so far", x.checks(true), 0);
        due("8 both right", sub(x, 3, 2, 2, 0), 3);
        due("8 two so far", x.checks(true), 2);
        due("8 the first wrong", sub(x, 3, 3, 3, 0), -6);
        due("8 three so far", x.checks(false), 3);
        due("8 not looked at", sub(x, 3, 1, 3, 0), 2);
        due("8 three still", x.checks(false), 3);
        due("8 and on", x.checks(true), 3);
        due("8 the second wrong", sub(x, 3, 1, 3, 0), -6);
        due("8 none needed", sub(x, 1, 1, 3, 0), 0);
        due("8 no such item", sub(x, 4, 1, 3, 0), -2);
        due("8 five so far", x.checks(true), 5);
        due("8 it stays laid out", x.count(4), 4);
    }

    private static void depending() {
        DataLayout x = items(1, 0, 0, 5, 1, 1, 5, 1, 2);
        due("9 no item", x.depending(4, 1), -2);
        due("9 no table", x.depending(3, 1), -4);
        due("9 tables", x.clause(2, 0, 3, 0) + x.clause(3, 1, 2, 5), 2);
        due("9 a table that doesn't depend", x.depending(2, 3), -4);
        due("9 too few", x.depending(3, 1), 0);
        due("9 too many", x.depending(3, 6), 0);
        due("9 fewest, not laid out", x.depending(3, 2), 1);
        due("9 lay", x.lay(), 13);
        due("9 now", x.size(1), 7);
        due("9 most", x.depending(3, 5), 1);
        due("9 it stays laid out", x.size(1), 13);
        due("9 refused", x.depending(3, -1), 0);
        due("9 as before", x.size(1), 13);
        due("9 fifth", sub(x, 3, 5, 0, 0), 11);
        due("9 another clause", x.clause(3, 1, 2, 5), 0);
        due("9 laid out still", x.place(3), 3);
    }

    private static void redefines() {
        DataLayout x = items(1, 0, 0, 5, 0, 0, 6, 1, 4, 6, 3, 4, 6, 0, 0, 7, 3, 2, 5, 1, 4, 5, 1, 4, 5, 1, 4, 66, 0, 0,
                77, 1, 1, 77, 1, 1);
        due("10 no item", x.redefines(99, 1), -2);
        due("10 no other", x.redefines(4, 0), -2);
        due("10 itself", x.redefines(4, 4), 0);
        due("10 one behind it", x.redefines(3, 4), 0);
        due("10 another level", x.redefines(7, 3), 0);
        due("10 one around it", x.redefines(4, 2), 0);
        due("10 77", x.redefines(12, 11), 0);
        due("10 66", x.redefines(10, 9), 0);
        due("10 one between", x.redefines(5, 3), 0);
        due("10 has a value", x.clause(4, 3, 5, 0), 1);
        due("10 a value", x.redefines(4, 3), 0);
        due("10 below has a value", x.clause(6, 3, 5, 0), 1);
        due("10 a value below", x.redefines(5, 4), 0);
        due("10 second", x.redefines(7, 2), 1);
        due("10 does already", x.redefines(7, 2), 0);
        due("10 none that redefines", x.redefines(8, 7), 0);
        due("10 third", x.redefines(8, 2), 1);
        due("10 fourth over another", x.redefines(9, 8), 0);
        due("10 fourth", x.redefines(9, 2), 1);
        DataLayout y = items(1, 0, 0, 5, 1, 4, 5, 1, 4, 5, 1, 4, 5, 1, 4);
        due("10 third over second", y.redefines(4, 3), 1);
        due("10 one that is redefined", y.redefines(3, 2), 0);
        due("10 over one with others between", y.redefines(5, 2), 0);
        due("10 over the second, too", y.redefines(5, 3), 1);
        due("10 lay", y.lay(), 8);
        due("10 places", y.place(4) * 10 + y.place(5), 44);
        DataLayout z = items(1, 0, 0, 5, 1, 4, 5, 1, 4, 5, 1, 4);
        due("10 a table", z.clause(2, 0, 2, 0) + z.clause(4, 0, 1, 0), 2);
        due("10 over a table", z.redefines(3, 2), 0);
        due("10 a table over another", z.redefines(4, 3), 1);
        DataLayout w = items(1, 0, 0, 5, 0, 0, 6, 1, 1, 5, 0, 0, 6, 1, 1);
        due("10 below another one", w.redefines(5, 3), 0);
        DataLayout v = items(1, 0, 0, 5, 3, 2, 5, 3, 2, 88, 0, 0, 5, 3, 2);
        due("10 the value of the other one", v.clause(2, 3, 12, 0) + v.clause(4, 4, 12, 12), 2);
        due("10 names are no values", v.redefines(3, 2), 1);
        due("10 behind a name", v.redefines(5, 2), 1);
        due("10 lay", v.lay(), 2);
        due("10 the name sees the other's value", holds(v, 4), 1);
        DataLayout u = items(1, 0, 0, 5, 1, 4, 5, 0, 0, 6, 1, 2, 6, 1, 2);
        due("10 outer", u.redefines(3, 2), 1);
        due("10 in one that redefines", u.redefines(5, 4), 1);
        due("10 lay", u.lay(), 4);
        due("10 size", u.size(3), 2);
    }

    private static void redefinesRecords() {
        DataLayout x = items(1, 1, 4, 77, 1, 1, 1, 0, 0, 5, 1, 12, 1, 1, 2, 1, 1, 2);
        due("10 a record over 77", x.redefines(3, 2), 0);
        due("10 a record", x.redefines(3, 1), 1);
        due("10 another record", x.redefines(5, 1), 1);
        due("10 lay", x.lay(), 18);
        due("10 place", x.place(3), 0);
        due("10 place below", x.place(4), 0);
        due("10 each by itself", x.size(3) * 100 + x.size(5), 1202);
        due("10 behind the longest", x.place(6), 16);
        DataLayout y = items(1, 1, 4, 1, 1, 4, 1, 1, 4);
        due("10 external", y.external(1, 3), 1);
        due("10 over an external one", y.redefines(2, 1), 0);
        due("10 external", y.external(3, 4), 1);
        due("10 an external one", y.redefines(3, 2), 0);
        DataLayout z = items(1, 1, 4, 1, 1, 4, 1, 1, 4);
        due("10 with one between", z.redefines(3, 1), 0);
        due("10 lay", z.lay(), 20);
        due("10 refused ones change nothing", z.redefines(3, 1), 0);
        due("10 laid out still", z.place(3), 16);
    }

    private static void refer() {
        DataLayout x = items(1, 0, 0, 5, 3, 2, 88, 0, 0, 5, 1, 6);
        due("11 no item", x.refer(5, 1, 1), -2);
        due("11 a name", x.refer(3, 1, 1), -4);
        due("11 not laid out", x.refer(4, 1, 1), -5);
        due("11 clauses", x.clause(3, 4, 1, 1) + x.clause(4, 1, 1, 3), 2);
        due("11 lay", x.lay(), 20);
        due("11 a name, laid out", x.refer(3, 1, 1), -4);
        due("11 all of it", x.refer(4, 1, 6), 2);
        due("11 the last one", x.refer(4, 6, 1), 7);
        due("11 one too many", x.refer(4, 2, 6), -1);
        due("11 behind it", x.refer(4, 7, 1), -1);
        due("11 from 0", x.refer(4, 0, 1), -1);
        due("11 none", x.refer(4, 1, 0), -1);
        due("11 less than none", x.refer(4, 3, -1), -1);
        due("11 far too many", x.refer(4, 2, Integer.MAX_VALUE), -1);
        due("11 far too far", x.refer(4, Integer.MAX_VALUE, Integer.MAX_VALUE), -1);
        due("11 of all", x.refer(1, 20, 1), 19);
        due("11 two now", x.depending(4, 2), 1);
        due("11 of all now", x.refer(1, 14, 1), 13);
        due("11 more than now", x.refer(1, 14, 2), -1);
        DataLayout y = items(1, 0, 0, 5, 1, 3, 5, 1, 3, 66, 0, 0);
        due("11 part", y.clause(4, 5, 2, 3), 1);
        due("11 lay", y.lay(), 6);
        due("11 of a part", y.refer(4, 3, 4), 2);
        due("11 more than the part", y.refer(4, 3, 5), -1);
    }

    private static void slack() {
        DataLayout x = items(1, 0, 0, 5, 1, 1, 5, 10, 0, 5, 8, 3, 88, 0, 0, 66, 0, 0, 77, 10, 0);
        due("12 no item", x.slack(8), -2);
        due("12 a name", x.slack(5), -4);
        due("12 a part", x.slack(6), -4);
        due("12 not laid out", x.slack(3), -5);
        due("12 clauses", x.clause(5, 4, 1, 1) + x.clause(6, 5, 2, 2) + x.clause(3, 2, 0, 0) + x.clause(7, 2, 0, 0), 4);
        due("12 lay", x.lay(), 32);
        due("12 ahead of a float", x.slack(3), 7);
        due("12 none", x.slack(4), 0);
        due("12 a name, laid out", x.slack(5), -4);
        due("12 of a record", x.slack(7), 0);
        due("12 of the first one", x.slack(1) + x.slack(2), 0);
        due("12 in all", x.count(3), 7);
    }

    private static void external() {
        DataLayout x = items(1, 0, 0, 5, 1, 4, 77, 1, 4, 1, 1, 4, 1, 1, 4, 1, 1, 4);
        due("13 no item", x.external(7, 1), -2);
        due("13 no item, no name", x.external(7, 100), -2);
        due("13 name -1", x.external(1, -1), -4);
        due("13 name 100", x.external(1, 100), -4);
        due("13 no record, no name", x.external(2, 100), -4);
        due("13 level 5", x.external(2, 1), 0);
        due("13 level 77", x.external(3, 1), 0);
        due("13 redefines", x.redefines(5, 4), 1);
        due("13 one that redefines", x.external(5, 1), 0);
        due("13 one that is redefined", x.external(4, 1), 0);
        due("13 name 0", x.external(1, 0), 1);
        due("13 is so already", x.external(1, 5), 0);
        due("13 name 99", x.external(6, 99), 1);
        due("13 lay", x.lay(), 28);
    }

    private static void atAndOctet() {
        DataLayout x = items(77, 1, 4);
        due("14 not laid out", at(x, 0), -1000);
        due("15 not laid out", x.octet(0, (byte) 1), -5);
        due("15 not laid out, 19999", x.octet(19999, (byte) 1), -5);
        due("15 -1", x.octet(-1, (byte) 1), -4);
        due("15 20000", x.octet(20000, (byte) 1), -4);
        due("15 lay", x.lay(), 4);
        due("14 first", at(x, 0), 32);
        due("14 last", at(x, 3), 32);
        due("14 behind it", at(x, 4), -1000);
        due("14 ahead of it", at(x, -1), -1000);
        due("14 far ahead of it", at(x, Integer.MIN_VALUE), -1000);
        due("15 last", x.octet(3, (byte) -128), 1);
        due("14 last", at(x, 3), -128);
        due("14 one ahead stays", at(x, 2), 32);
        due("15 behind it", x.octet(4, (byte) 1), -4);
        due("15 least", x.octet(Integer.MIN_VALUE, (byte) 1), -4);
        due("15 it stays laid out", x.place(1), 0);
    }

    private static void holdsBySigns() {
        for (int usage = 3; usage <= 6; usage++) {
            DataLayout x = items(77, usage, 3, 88, 0, 0, 88, 0, 0);
            due("16 not laid out", holds(x, 2), -2);
            due("16 value", x.clause(1, 3, -120, 0), 1);
            due("16 ranges", x.clause(2, 4, 5, 9) + x.clause(2, 4, -120, -119) + x.clause(3, 4, -119, 200), 3);
            due("16 lay", x.lay(), usage < 5 ? 3 : 4);
            due("16 in its second range", holds(x, 2), 1);
            due("16 just ahead of its range", holds(x, 3), 0);
            int first = usage == 5 ? 1 : 0;
            int sign = usage == 3 ? 2 : usage == 6 ? 3 : 0;
            byte positive = (byte) (usage == 3 ? 57 : usage == 4 ? 49 : 43);
            due("16 positive", x.octet(sign, positive), 1);
            due("16 not in it", holds(x, 2), 0);
            due("16 in it", holds(x, 3), 1);
            int[] noSigns = {0, 32, 42, 44, 46, 47, 58, 111, 122, -1, -128, 127};
            for (int octet : noSigns) {
                due("16 octet", x.octet(sign, (byte) octet), 1);
                due("16 no sign " + octet + " of usage " + usage, holds(x, 2), -2);
            }
            due("16 octet", x.octet(sign, positive), 1);
            int[] noDigits = {0, 47, 58, 113, -1};
            for (int octet : noDigits) {
                due("16 octet", x.octet(first + 1, (byte) octet), 1);
                due("16 no digit " + octet + " of usage " + usage, holds(x, 2), -2);
            }
        }
    }

    private static void holdsPackedAndBinary() {
        DataLayout x = items(77, 7, 2, 88, 0, 0);
        due("16 clauses", x.clause(1, 3, -42, 0) + x.clause(2, 4, -42, -42), 2);
        due("16 lay", x.lay(), 2);
        bytes("16 packed", x, 0, 0x04, 0x2d);
        due("16 packed", holds(x, 2), 1);
        due("16 one too many ahead", x.octet(0, (byte) 0xf4), 1);
        due("16 isn't looked at", holds(x, 2), 1);
        due("16 no digit", x.octet(0, (byte) 0x0a), 1);
        due("16 no digit", holds(x, 2), -2);
        due("16 digits", x.octet(0, (byte) 4) + x.octet(1, (byte) 0x2f), 2);
        due("16 no sign is positive", holds(x, 2), 0);
        for (int sign = 0; sign < 16; sign++) {
            due("16 sign", x.octet(1, (byte) (0x20 + sign)), 1);
            due("16 half byte " + sign, holds(x, 2), sign == 13 ? 1 : sign == 12 || sign == 15 ? 0 : -2);
        }
        DataLayout y = items(77, 7, 3, 88, 0, 0);
        due("16 clauses", y.clause(2, 4, 942, 942), 1);
        due("16 lay", y.lay(), 2);
        due("16 octets", y.octet(0, (byte) 0x94) + y.octet(1, (byte) 0x2f), 2);
        due("16 15 is no sign", holds(y, 2), 1);
        due("16 octets", y.octet(0, (byte) 0xa4), 1);
        due("16 all are looked at", holds(y, 2), -2);

        int[] digits = {4, 9, 18};
        for (int n : digits) {
            DataLayout z = items(77, 8, n, 88, 0, 0, 88, 0, 0);
            due("16 clauses", z.clause(1, 3, -300, 0) + z.clause(2, 4, -300, -300) + z.clause(3, 4, 0, 2147483647), 3);
            due("16 lay", z.lay(), n == 4 ? 2 : n == 9 ? 4 : 8);
            due("16 binary", holds(z, 2) * 10 + holds(z, 3), 10);
            due("16 highest byte", z.octet(0, (byte) 0x7f), 1);
            due("16 positive", holds(z, 2), 0);
            due("16 greater than an int can be", holds(z, 3), n == 18 ? 0 : 1);
        }
        DataLayout w = items(77, 3, 18, 88, 0, 0);
        due("16 clauses", w.clause(2, 4, Integer.MIN_VALUE, Integer.MAX_VALUE), 1);
        due("16 lay", w.lay(), 18);
        due("16 zeros", holds(w, 2), 1);
        due("16 2147483647 and one digit ahead", w.octet(0, (byte) 57), 1);
        due("16 beyond an int", holds(w, 2), 0);
        DataLayout v = items(77, 3, 2, 88, 0, 0);
        due("16 clauses", v.clause(2, 4, 0, 0), 1);
        due("16 lay", v.lay(), 2);
        due("16 octet", v.octet(1, (byte) 112), 1);
        due("16 less than none is none", holds(v, 2), 1);
    }

    private static void holdsElsewhere() {
        DataLayout x = items(1, 0, 0, 5, 1, 3, 5, 0, 0, 6, 3, 2, 88, 0, 0, 5, 3, 2, 88, 0, 0);
        due("16 no item", holds(x, 8), -1);
        due("16 no item 0", holds(x, 0), -1);
        due("16 no name, not laid out", holds(x, 4), -1);
        due("16 a name, not laid out", holds(x, 5), -2);
        due("16 clauses", x.clause(5, 4, 7, 7) + x.clause(3, 0, 3, 0) + x.clause(4, 3, 7, 0) + x.clause(7, 4, 0, 0), 4);
        due("16 lay", x.lay(), 11);
        due("16 no name", holds(x, 4), -1);
        due("16 in the first entry", holds(x, 5), 1);
        due("16 second entry", x.octet(6, (byte) 0), 1);
        due("16 only the first one counts", holds(x, 5), 1);
        due("16 first entry", x.octet(4, (byte) 0), 1);
        due("16 not digits", holds(x, 5), -2);
        due("16 another one", holds(x, 7), 1);
        DataLayout y = items(1, 0, 0, 5, 1, 2, 5, 3, 2, 88, 0, 0);
        due("16 clauses", y.clause(4, 4, 0, 9) + y.redefines(3, 2), 2);
        due("16 lay", y.lay(), 2);
        due("16 spaces are no digits", holds(y, 4), -2);
    }

    private static void count() {
        DataLayout x = items(1, 0, 0, 5, 1, 1, 5, 8, 4, 88, 0, 0, 66, 0, 0, 77, 1, 1, 1, 1, 1);
        due("17 clauses", x.clause(3, 2, 0, 0) + x.clause(3, 1, 0, 2) + x.clause(4, 4, 1, 1), 3);
        due("17 items", x.count(0), 7);
        due("17 records", x.count(1), 3);
        due("17 tables", x.count(2), 1);
        due("17 slack, not laid out", x.count(3), -1);
        due("17 bytes, not laid out", x.count(4), -1);
        due("17 part", x.clause(5, 5, 2, 2), 1);
        due("17 lay", x.lay(), 17);
        due("17 slack", x.count(3), 1);
        due("17 bytes", x.count(4), 17);
        due("17 -1", x.count(-1), -1);
        due("17 5", x.count(5), -1);
        due("17 greatest", x.count(Integer.MAX_VALUE), -1);
    }

    private static void layOffWhenTold() {
        DataLayout x = items(1, 0, 0, 5, 8, 1, 5, 8, 1, 1, 1, 1);
        due("5 lay", x.lay(), 9);
        due("5 a refused item", x.item(5, 1, 1), -3);
        due("5 a refused clause", x.clause(1, 3, 1, 1), 0);
        due("5 a refused external", x.external(2, 1), 0);
        due("5 refused ones change nothing", x.place(4), 8);
        due("5 a clause", x.clause(2, 3, 1, 1), 1);
        due("5 not laid out", x.place(4), -5);
        due("5 no bytes", at(x, 0), -1000);
        due("5 lay", x.lay(), 9);
        due("5 redefines", x.redefines(3, 2), 1);
        due("5 not laid out", x.size(4), -5);
        due("5 lay", x.lay(), 9);
        due("5 external", x.external(4, 1), 1);
        due("5 not laid out", x.refer(4, 1, 1), -5);
        due("5 lay", x.lay(), 9);
        due("5 an item", x.item(77, 1, 1), 5);
        due("5 not laid out", x.slack(4), -5);
        due("5 nor are its bytes", x.octet(0, (byte) 1), -5);
        due("5 lay", x.lay(), 17);
    }
}
