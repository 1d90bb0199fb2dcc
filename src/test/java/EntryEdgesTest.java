/** The edges of ENTRY and FIELD, and of promises 17 and 18: each method stands for the sentence above it. */
public final class EntryEdgesTest {
    private static final int LEAST = Integer.MIN_VALUE;
    private static final int MOST = Integer.MAX_VALUE;
    private static final int LENGTH = Forge.LENGTH;
    /** Bytes that a value takes, by kind. */
    private static final int[] SIZES = {0, 1, 1, 2, 4};
    private static final int[] BYTES = {255, 254, 128, 127, 1, 0, 200, 3, 77, 73, 42, 129, 5, 250, 6, 7, 130, 131, 90, 0};

    public static void main(String[] args) {
        for (int order = 0; order < 2; order++) {
            kinds(order == 1);
            countZero(order == 1);
            fourBytesOrMore(order == 1);
            valuesAtTheFilesEnd(order == 1);
            wholeFile(order == 1);
            wholeFullFile(order == 1);
            productsThatWrap(order == 1);
            sumsThatWrap(order == 1);
            valueNumbers(order == 1);
            tagsOfTheDirectory(order == 1);
            tagsThatAreNoShort(order == 1);
            firstEntryWithTheTag(order == 1);
            pages(order == 1);
        }
        Check.end();
    }

    private static void none(String what, Run run, int page, int tag) {
        run.refuses(what + ": fieldCount(" + page + ", " + tag + ")", x -> x.fieldCount(page, tag), -1);
        for (int k : new int[] {0, 1, -1}) {
            run.refuses(what + ": field(" + page + ", " + tag + ", " + k + ")", x -> x.field(page, tag, k), -1);
        }
    }

    private static void none(String what, Forge f) {
        none(what, f.run(), 0, 256);
    }

    /** The field 256 has these values; the one before and the one behind are not there. */
    private static void is(String what, Forge f, long... values) {
        Run run = f.run();
        run.refuses(what + ": fieldCount", x -> x.fieldCount(0, 256), values.length);
        TaggedRaster x = run.object();
        for (int k = 0; k < values.length; k++) {
            Check.due(what + ": value " + k, x.field(0, 256, k), values[k]);
        }
        Check.due(what + ": value -1", x.field(0, 256, -1), -1);
        Check.due(what + ": the value behind the last", x.field(0, 256, values.length), -1);
    }

    /** Values that stand in bytes, one behind the other. */
    private static long[] values(int[] bytes, int kind, int count, boolean greatest) {
        long[] values = new long[count];
        for (int k = 0; k < count * SIZES[kind]; k++) {
            int within = k % SIZES[kind];
            int shift = 8 * (greatest ? SIZES[kind] - 1 - within : within);
            values[k / SIZES[kind]] += (long) bytes[k] << shift;
        }
        return values;
    }

    /** "Kinds: 1 BYTE and 2 TEXT, 3 SHORT, 4 LONG"; "BROKEN when its kind is another one". */
    private static void kinds(boolean greatest) {
        Run file = new Forge(greatest).run();
        int place = Forge.entry(0) + 2;
        TaggedRaster x = file.object();
        int calls = 0;
        for (int kind = 0; kind <= 65535; kind++) {
            if (calls > 450) {
                x = file.object();
                calls = 0;
            }
            x.poke(place, greatest ? kind / 256 : kind % 256);
            x.poke(place + 1, greatest ? kind % 256 : kind / 256);
            calls += 4;
            boolean known = kind >= 1 && kind <= 4;
            Check.due("kind " + kind + ": fieldCount", x.fieldCount(0, 256), known ? 1 : -1);
            Check.due("kind " + kind + ": field", x.field(0, 256, 0) >= 0, known);
        }
        for (int kind : new int[] {0, 5, 259, 772, 32771, 65535}) {
            none("kind " + kind, new Forge(greatest).kind(0, kind));
            none("kind " + kind + ", count 5", new Forge(greatest).kind(0, kind).count(0, 5).numberLong(0, 8));
            none("kind " + kind + ", count 0", new Forge(greatest).kind(0, kind).count(0, 0));
        }
    }

    /** "its count is 0". */
    private static void countZero(boolean greatest) {
        for (int kind = 1; kind <= 4; kind++) {
            none("count 0 of kind " + kind, new Forge(greatest).kind(0, kind).count(0, 0));
            none("count 0 of kind " + kind, new Forge(greatest).kind(0, kind).count(0, 0).numberLong(0, 0xffffffffL));
            is("count 1 of kind " + kind, new Forge(greatest).kind(0, kind).count(0, 1).numberLong(0, 0), 0);
        }
    }

    /** "When all its values together take at most four bytes they stand in the four bytes, from the first of them on". */
    private static void fourBytesOrMore(boolean greatest) {
        int[] four = {250, 7, 128, 9};
        for (int kind = 1; kind <= 4; kind++) {
            int most = 4 / SIZES[kind];
            for (int count = 1; count <= most; count++) {
                Forge f = new Forge(greatest).kind(0, kind).count(0, count);
                for (int k = 0; k < 4; k++) {
                    f.poke(Forge.entry(0) + 8 + k, four[k]);
                }
                is(count + " within, kind " + kind, f, values(four, kind, count, greatest));
            }
            for (int count = most + 1; count <= most + 2; count++) {
                for (int place : new int[] {8, 9, 100, 101}) {
                    Forge f = new Forge(greatest).kind(0, kind).count(0, count).numberLong(0, place);
                    for (int k = 0; k < BYTES.length; k++) {
                        f.poke(place + k, BYTES[k]);
                    }
                    is(count + " elsewhere, kind " + kind, f, values(BYTES, kind, count, greatest));
                }
            }
        }
    }

    /** "or its values do not lie wholly in the file", at the last bytes of the file. */
    private static void valuesAtTheFilesEnd(boolean greatest) {
        for (int kind = 1; kind <= 4; kind++) {
            for (int count = 4 / SIZES[kind] + 1; count <= 9; count++) {
                int last = LENGTH - count * SIZES[kind];
                Forge f = new Forge(greatest).kind(0, kind).count(0, count).numberLong(0, last);
                Check.due("up to the last byte: fieldCount", f.x.fieldCount(0, 256), count);
                Check.due("up to the last byte: the last value", f.x.field(0, 256, count - 1), 0);
                none("a byte too far, kind " + kind, f.numberLong(0, last + 1));
                none("all but a byte outside, kind " + kind, f.numberLong(0, LENGTH - 1));
                none("behind the file, kind " + kind, f.numberLong(0, LENGTH));
                none("an end of 900, kind " + kind, f.numberLong(0, 900 - count * SIZES[kind]));
            }
        }
    }

    /** The same from the first byte of the file on. */
    private static void wholeFile(boolean greatest) {
        for (int kind = 1; kind <= 4; kind++) {
            int most = LENGTH / SIZES[kind];
            int rest = LENGTH % SIZES[kind];
            Forge f = new Forge(greatest).kind(0, kind).count(0, most).numberLong(0, rest);
            Check.due("the whole file: fieldCount", f.x.fieldCount(0, 256), most);
            Check.due("the whole file: the last value", f.x.field(0, 256, most - 1), 0);
            Check.due("the whole file: no more", f.x.field(0, 256, most), -1);
            none("one more, kind " + kind, f.count(0, most + 1).numberLong(0, 0));
            none("one place further, kind " + kind, f.count(0, most).numberLong(0, rest + 1));
        }
    }

    /** The same in a file of 900 bytes. */
    private static void wholeFullFile(boolean greatest) {
        int entry = 622 - 358 + 2;
        for (int kind = 1; kind <= 4; kind++) {
            int most = 900 / SIZES[kind];
            Run run = Run.full(greatest).poke(entry + (greatest ? 3 : 2), kind).poke(entry + 8, 0, 0, 0, 0);
            Run good = run.poke(entry + 4, bytesOf(most, greatest));
            good.refuses("all of 900 bytes: fieldCount", x -> x.fieldCount(0, 256), most);
            Check.due("the last value", good.object().field(0, 256, most - 1), 0);
            Check.due("the first value", good.object().field(0, 256, 0) % 256, greatest ? kind == 4 ? 42 : 77 : 73);
            none("one more", run.poke(entry + 4, bytesOf(most + 1, greatest)), 0, 256);
            none("one place further", good.poke(entry + 8, bytesOf(1, greatest)), 0, 256);
        }
    }

    private static int[] bytesOf(int value, boolean greatest) {
        int low = value % 256;
        int high = value / 256;
        return greatest ? new int[] {0, 0, high, low} : new int[] {low, high, 0, 0};
    }

    /** Counts times the size of a value that would wrap around to few bytes. */
    private static void productsThatWrap(boolean greatest) {
        long[] counts = {0x40000000L, 0x40000001L, 0x40000002L, 0x7fffffffL, 0x80000000L, 0x80000001L, 0x80000002L, 0x80000003L,
            0xc0000000L, 0xc0000001L, 0xfffffffeL, 0xffffffffL, 0x10000L, 0x10001L, 0x8001L, 0x4001L, 0x1000000L};
        for (int kind = 1; kind <= 4; kind++) {
            for (long count : counts) {
                for (long place : new long[] {0, 8, 12, LENGTH - 8}) {
                    none(count + " values of kind " + kind, new Forge(greatest).kind(0, kind).count(0, count).numberLong(0, place));
                }
            }
        }
    }

    /** Places plus sizes that would wrap around into the file. */
    private static void sumsThatWrap(boolean greatest) {
        for (int kind = 1; kind <= 4; kind++) {
            int count = 16 / SIZES[kind];
            for (long place : new long[] {0xffffffffL, 0xfffffff0L, 0xfffffff8L, 0xfffffff1L, 0x80000000L, 0x7fffffffL, 0x7ffffff8L,
                0x80000008L, 65536 + 8, (1L << 24) + 8}) {
                none("16 bytes at " + place + ", kind " + kind, new Forge(greatest).kind(0, kind).count(0, count).numberLong(0, place));
            }
            long large = 0xfffffff8L / SIZES[kind];
            none("a sum of 2^32, kind " + kind, new Forge(greatest).kind(0, kind).count(0, large).numberLong(0, 8));
            none("a sum of 2^32 + 8, kind " + kind, new Forge(greatest).kind(0, kind).count(0, large).numberLong(0, 16));
            none("both as great as can be", new Forge(greatest).kind(0, kind).count(0, 0xffffffffL).numberLong(0, 0xffffffffL));
        }
    }

    /** Promise 17: "Value k (from 0)"; "-1 when there is no such ... value". */
    private static void valueNumbers(boolean greatest) {
        for (int kind = 1; kind <= 4; kind++) {
            for (int count : new int[] {1, 4 / SIZES[kind], 5}) {
                Forge f = new Forge(greatest).kind(0, kind).count(0, count);
                if (count * SIZES[kind] > 4) {
                    f.numberLong(0, 8);
                }
                Run run = f.run();
                Check.due("the first value", run.object().field(0, 256, 0) >= 0, true);
                Check.due("the last value", run.object().field(0, 256, count - 1) >= 0, true);
                for (int k : new int[] {-1, count, count + 1, -count, 255, 256, 65536, 0x20000000, 0x40000000, 0x40000001, LEAST,
                    LEAST + 1, MOST}) {
                    run.refuses("value " + k + " of " + count + ", kind " + kind, x -> x.field(0, 256, k), -1);
                }
            }
        }
    }

    /** Tags from 0 to 65535; entries behind the directory's number do not count. */
    private static void tagsOfTheDirectory(boolean greatest) {
        for (int tag : new int[] {0, 1, 255, 32767, 32768, 65534, 65535}) {
            Run run = new Forge(greatest).tag(0, tag).number(0, 11).run();
            run.refuses("tag " + tag, x -> x.field(0, tag, 0), 11);
            run.refuses("tag " + tag, x -> x.fieldCount(0, tag), 1);
        }
        Run seven = new Forge(greatest).putShort(Forge.DIRECTORY, 7).run();
        Check.due("the last of seven entries", seven.object().fieldCount(0, 279), 1);
        none("an eighth entry behind seven", seven, 0, 317);
        none("a tag between two others", new Forge(greatest).run(), 0, 260);
        none("a tag before the first", new Forge(greatest).run(), 0, 255);
        none("a tag behind the last", new Forge(greatest).run(), 0, 318);
    }

    /** Promise 17: "(a tag that is no SHORT is in none)". */
    private static void tagsThatAreNoShort(boolean greatest) {
        Run run = new Forge(greatest).tag(0, 0).tag(1, 65535).run();
        for (int tag : new int[] {-1, 65536, -65536, 65536 + 258, 258 - 65536, 131071, LEAST, LEAST + 258, MOST}) {
            none("tag " + tag, run, 0, tag);
        }
        Check.due("tag 258 itself", run.object().fieldCount(0, 258), 1);
    }

    /** "The FIELD of a page with some tag is its first entry with that tag", also when that one is BROKEN. */
    private static void firstEntryWithTheTag(boolean greatest) {
        Forge f = new Forge(greatest).tag(1, 256).number(1, 12).tag(7, 256).number(7, 13).number(0, 11);
        is("the first of three", f, 11);
        none("the first is of no kind", f.kind(0, 5));
        none("the first has no values", f.kind(0, 3).count(0, 0));
        none("the first lies outside", f.count(0, 3).numberLong(0, LENGTH - 5));
        is("the first lies just inside", f.numberLong(0, LENGTH - 6), 0, 0, 0);
        is("the second when the first has another tag", f.tag(0, 255), 12);
        is("the last one alone", f.tag(1, 255), 13);
    }

    /** Promises 17 and 18: "-1 when there is no such page". */
    private static void pages(boolean greatest) {
        for (int page : new int[] {0, 1, -1, 7, 8}) {
            none("no page at all", Run.start().clear(greatest), page, 256);
        }
        Run run = Run.full(greatest);
        int[] columns = {16, 16, 8};
        for (int page = 0; page < 3; page++) {
            int number = page;
            run.refuses("page " + page, x -> x.field(number, 256, 0), columns[page]);
            run.refuses("page " + page, x -> x.fieldCount(number, 256), 1);
        }
        for (int page : new int[] {-1, 3, 4, 8, 9, 256, 65536, LEAST, LEAST + 1, MOST}) {
            none("page " + page, run, page, 256);
        }
        Run headless = run.poke(greatest ? 3 : 2, 43);
        none("no header", headless, 0, 256);
    }
}
