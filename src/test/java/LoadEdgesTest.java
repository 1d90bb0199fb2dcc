import java.util.ArrayList;
import java.util.Arrays;
import java.util.List;

/** The edges of promise 16, load, but for DECODING: each method stands for the sentence above it. */
public final class LoadEdgesTest {
    private static final int LEAST = Integer.MIN_VALUE;
    private static final int MOST = Integer.MAX_VALUE;
    private static final int NO_PAGE = TaggedRaster.NO_PAGE;
    private static final int BAD_FIELDS = TaggedRaster.BAD_FIELDS;
    private static final int BAD_STRIP = TaggedRaster.BAD_STRIP;
    private static final int LENGTH = Forge.LENGTH;
    private static final int[] TAGS = {256, 257, 258, 259, 273, 278, 279, 317};
    private static final int[] VALUES = {2, 2, 8, 1, 8, 2, 4, 1};

    public static void main(String[] args) {
        noSuchPage();
        firstThatHolds();
        for (int order = 0; order < 2; order++) {
            tagsGoUp(order == 1);
            missingFields(order == 1);
            kindsOfFields(order == 1);
            countsOfFields(order == 1);
            columns(order == 1);
            rows(order == 1);
            depths(order == 1);
            compressions(order == 1);
            rowsAStrip(order == 1);
            predictors(order == 1);
            numbersOfStrips(order == 1);
            stripNumbersOutside(order == 1);
            stripsAtTheFilesEnd(order == 1);
            sumsWithoutBounds(order == 1);
            firstBadStrip(order == 1);
            remainders(order == 1);
        }
        otherFieldsDoNotMatter();
        pictureBecomesThePages();
        Check.end();
    }

    /** A page of two columns, two rows and depth 8, plain, in one strip: 1, 2, 3, 4. */
    private static Forge small(boolean greatest) {
        return new Forge(greatest).shape(2, 2, 8, 1).strip(1, 2, 3, 4);
    }

    private static void good(String what, Forge f) {
        f.shows(what, 8002002, 1, 2, 3, 4);
    }

    /** The same page by a directory at 64 whose entries, one SHORT each, are listed with their tags. */
    private static Forge listed(boolean greatest, int[]... entries) {
        Forge f = new Forge(greatest).strip(1, 2, 3, 4).putLong(4, 64).putShort(64, entries.length);
        for (int k = 0; k < entries.length; k++) {
            int at = 66 + 12 * k;
            f.putShort(at, entries[k][0]).putShort(at + 2, 3).putLong(at + 4, 1).putShort(at + 8, entries[k][1]);
        }
        return f.putLong(66 + 12 * entries.length, 0);
    }

    /** The eight fields with others among them, the tags in their order. */
    private static int[][] fields(int... others) {
        List<int[]> all = new ArrayList<>();
        for (int k = 0; k < 8; k++) {
            all.add(new int[] {TAGS[k], VALUES[k]});
        }
        for (int tag : others) {
            all.add(new int[] {tag, 1});
        }
        all.sort((a, b) -> a[0] - b[0]);
        return all.toArray(new int[0][]);
    }

    /** "NO_PAGE: there is no such page." */
    private static void noSuchPage() {
        Run[] runs = {Run.start().text(40000, "a"), Run.full(false), Run.full(true).text(50000, "b").washed(3, 3, 2),
            Run.two(true).poke(3, 41), Run.two(false).poke(4, 0, 0, 0, 0)};
        int[] pages = {0, 3, 3, 0, 0};
        for (int k = 0; k < runs.length; k++) {
            for (int page : new int[] {-1, -2, pages[k], pages[k] + 1, 7, 8, 9, 256, 65536, LEAST, LEAST + 1, MOST}) {
                runs[k].refuses("load(" + page + ")", x -> x.load(page), NO_PAGE);
            }
            for (int page = 0; page < pages[k]; page++) {
                int number = page;
                runs[k].takes("load(" + page + ")", x -> x.load(number), 0);
            }
        }
        Run eight = Run.start();
        for (int k = 0; k < 8; k++) {
            int sample = k % 2;
            eight = eight.then(x -> x.fill(0, 0, 1, 1, sample)).page(1, 1, 1);
        }
        Check.due("the eighth page", eight.takes("load(7)", x -> x.load(7), 0).object().sample(0, 0), 1);
        Check.due("the seventh page", eight.takes("load(6)", x -> x.load(6), 0).object().sample(0, 0), 0);
        eight.refuses("no ninth", x -> x.load(8), NO_PAGE);
    }

    /** "the answer is the first that holds of these". */
    private static void firstThatHolds() {
        Forge bad = small(false).number(Forge.COLUMNS, 17).numberLong(Forge.PLACES, 5000);
        bad.refuses("fields and strip are bad", BAD_FIELDS);
        bad.run().refuses("and there is no such page", x -> x.load(1), NO_PAGE);
        small(false).numberLong(Forge.PLACES, 5000).refuses("the strip alone is bad", BAD_STRIP);
        small(true).tag(7, 1).numberLong(Forge.LENGTHS, 5).refuses("tags and strip are bad", BAD_FIELDS);
        small(true).number(Forge.PREDICTOR, 3).numberLong(Forge.LENGTHS, 5).refuses("predictor and strip are bad", BAD_FIELDS);
        small(true).count(Forge.LENGTHS, 2).numberLong(Forge.PLACES, 5000).refuses("lengths and strip are bad", BAD_FIELDS);
    }

    /** "the tags of its entries do not go up strictly from entry to entry", those of other fields too. */
    private static void tagsGoUp(boolean greatest) {
        good("the eight fields", listed(greatest, fields()));
        good("with others around and among them", listed(greatest, fields(0, 1, 255, 260, 274, 277, 316, 318, 32767, 32768, 65535)));
        for (int k = 0; k < 7; k++) {
            int[][] swapped = fields();
            int[] first = swapped[k];
            swapped[k] = swapped[k + 1];
            swapped[k + 1] = first;
            listed(greatest, swapped).refuses("entries " + k + " and " + (k + 1) + " swapped", BAD_FIELDS);
            listed(greatest, fields(TAGS[k])).refuses("tag " + TAGS[k] + " twice", BAD_FIELDS);
        }
        listed(greatest, fields(317)).refuses("tag 317 twice", BAD_FIELDS);
        for (int tag : new int[] {0, 255, 260, 300, 318, 32767, 32768, 65535}) {
            good("tag " + tag + " once", listed(greatest, fields(tag)));
            listed(greatest, fields(tag, tag)).refuses("tag " + tag + " twice", BAD_FIELDS);
        }
        int[][] last = fields(65534, 65535);
        good("the last two go up by one", listed(greatest, last));
        last[9][0] = 65533;
        listed(greatest, last).refuses("the last two go down by one", BAD_FIELDS);
        last[9][0] = 0;
        listed(greatest, last).refuses("the last one is 0", BAD_FIELDS);
        int[][] front = fields(0, 1);
        front[0][0] = 1;
        front[1][0] = 0;
        listed(greatest, front).refuses("the first two go down by one", BAD_FIELDS);
    }

    /** "or one of the fields 256, 257, 258, 259, 273, 278, 279 is missing"; "317, which may be missing". */
    private static void missingFields(boolean greatest) {
        for (int k = 0; k < 8; k++) {
            List<int[]> rest = new ArrayList<>(Arrays.asList(fields()));
            rest.remove(k);
            Forge f = listed(greatest, rest.toArray(new int[0][]));
            if (TAGS[k] == 317) {
                good("without 317", f);
            } else {
                f.refuses("without " + TAGS[k], BAD_FIELDS);
            }
        }
        listed(greatest, new int[] {256, 2}).refuses("one field alone", BAD_FIELDS);
        listed(greatest, new int[] {0, 2}).refuses("one other field alone", BAD_FIELDS);
    }

    /** "is BROKEN, not of kind SHORT or LONG". */
    private static void kindsOfFields(boolean greatest) {
        for (int k = 0; k < 8; k++) {
            for (int kind : new int[] {0, 1, 2, 5, 6, 255, 256, 259, 260, 65535}) {
                small(greatest).kind(k, kind).refuses("kind " + kind + " of " + TAGS[k], BAD_FIELDS);
                Forge f = small(greatest).kind(k, kind).numberLong(k, 0);
                f.poke(Forge.entry(k) + 8, VALUES[k]).refuses("kind " + kind + " of " + TAGS[k], BAD_FIELDS);
            }
            good("SHORT " + TAGS[k], small(greatest).kind(k, 3).numberLong(k, 0).number(k, VALUES[k]));
            good("LONG " + TAGS[k], small(greatest).kind(k, 4).numberLong(k, VALUES[k]));
        }
    }

    /** "or does not have count 1"; a count of 0 is BROKEN. */
    private static void countsOfFields(boolean greatest) {
        for (int k = 0; k < 8; k++) {
            for (long count : new long[] {0, 2, 3, 256, 257, 65536, 65537, 0x80000000L, 0x80000001L, 0xffffffffL}) {
                small(greatest).kind(k, 3).numberLong(k, 0).number(k, VALUES[k]).count(k, count)
                        .refuses(count + " SHORTs of " + TAGS[k], BAD_FIELDS);
                small(greatest).kind(k, 4).numberLong(k, VALUES[k]).count(k, count)
                        .refuses(count + " LONGs of " + TAGS[k], BAD_FIELDS);
            }
            good("count 1 of " + TAGS[k], small(greatest).count(k, 1));
        }
    }

    /** A LONG whose lower half alone would do. */
    private static void greatLongs(boolean greatest, int k) {
        for (long more : new long[] {65536, 1L << 24, 0x80000000L, 0xffff0000L}) {
            small(greatest).kind(k, 4).numberLong(k, VALUES[k] + more).refuses(VALUES[k] + more + " as " + TAGS[k], BAD_FIELDS);
        }
    }

    /** "or 256 or 257 (columns, rows) is not 1 .. 16". */
    private static void columns(boolean greatest) {
        for (int w = 0; w <= 40; w++) {
            int[] row = new int[w];
            for (int k = 0; k < w; k++) {
                row[k] = 3 * k + 1;
            }
            Forge f = new Forge(greatest).shape(w, 1, 8, 1).strip(row);
            if (w >= 1 && w <= 16) {
                f.shows(w + " columns", 8000001 + 1000 * w, row);
            } else {
                f.refuses(w + " columns", BAD_FIELDS);
            }
        }
        for (int w : new int[] {256, 257, 272, 32768, 65535}) {
            small(greatest).number(Forge.COLUMNS, w).refuses(w + " columns", BAD_FIELDS);
        }
        greatLongs(greatest, Forge.COLUMNS);
    }

    private static void rows(boolean greatest) {
        for (int h = 0; h <= 40; h++) {
            int[] column = new int[h];
            for (int k = 0; k < h; k++) {
                column[k] = 3 * k + 1;
            }
            Forge f = new Forge(greatest).shape(1, h, 8, 1).number(Forge.ROWS_A_STRIP, 60).strip(column);
            if (h >= 1 && h <= 16) {
                f.shows(h + " rows", 8001000 + h, column);
            } else {
                f.refuses(h + " rows", BAD_FIELDS);
            }
        }
        for (int h : new int[] {256, 257, 272, 32768, 65535}) {
            small(greatest).number(Forge.ROWS, h).refuses(h + " rows", BAD_FIELDS);
        }
        greatLongs(greatest, Forge.ROWS);
    }

    /** "258 (depth) not 1, 2, 4 or 8". */
    private static void depths(boolean greatest) {
        for (int d = 0; d <= 33; d++) {
            int[] strip = new int[d];
            Forge f = new Forge(greatest).shape(8, 1, d, 1).strip(strip);
            if (d == 1 || d == 2 || d == 4 || d == 8) {
                f.shows("depth " + d, 1000000 * d + 8001, new int[8]);
            } else {
                f.refuses("depth " + d, BAD_FIELDS);
            }
        }
        for (int d : new int[] {64, 128, 256, 264, 32768, 65535}) {
            small(greatest).number(Forge.DEPTH, d).refuses("depth " + d, BAD_FIELDS);
        }
        greatLongs(greatest, Forge.DEPTH);
    }

    /** "259 (compression) not 1, 5 or 32773". */
    private static void compressions(boolean greatest) {
        good("compression 1", small(greatest));
        good("compression 5", new Forge(greatest).shape(2, 2, 8, 5).strip(Codes.bytes(16, 0, 1, 0, 2, 0, 3, 0, 4, 17)));
        good("compression 32773", new Forge(greatest).shape(2, 2, 8, 32773).strip(3, 1, 2, 3, 4));
        for (int c : new int[] {0, 2, 3, 4, 6, 7, 8, 32772, 32774, 32768, 32769, 257, 261, 65535, 1280}) {
            small(greatest).number(Forge.COMPRESSION, c).refuses("compression " + c, BAD_FIELDS);
        }
        greatLongs(greatest, Forge.COMPRESSION);
        small(greatest).kind(Forge.COMPRESSION, 4).numberLong(Forge.COMPRESSION, 0xffff8005L)
                .refuses("compression 2^32 - 65536 + 32773", BAD_FIELDS);
    }

    /** "278 (rows a strip; more than the picture has rows count as its rows) is 0". */
    private static void rowsAStrip(boolean greatest) {
        small(greatest).number(Forge.ROWS_A_STRIP, 0).refuses("no rows a strip", BAD_FIELDS);
        small(greatest).number(Forge.ROWS_A_STRIP, 1).refuses("one row a strip, and one strip's numbers", BAD_FIELDS);
        for (int rows : new int[] {2, 3, 4, 16, 17, 255, 256, 257, 32767, 32768, 65534, 65535}) {
            good(rows + " rows a strip", small(greatest).number(Forge.ROWS_A_STRIP, rows));
        }
        small(greatest).kind(Forge.ROWS_A_STRIP, 4).numberLong(Forge.ROWS_A_STRIP, 0).refuses("LONG 0 rows a strip", BAD_FIELDS);
        for (long rows : new long[] {2, 3, 65536, 65537, 0x7fffffffL, 0x80000000L, 0x80000001L, 0xffff0000L, 0xfffffffeL, 0xffffffffL}) {
            good(rows + " rows a strip", small(greatest).kind(Forge.ROWS_A_STRIP, 4).numberLong(Forge.ROWS_A_STRIP, rows));
        }
        Forge one = new Forge(greatest).shape(2, 1, 8, 1).strip(8, 9);
        one.shows("one row, one a strip", 8002001, 8, 9);
        one.number(Forge.ROWS_A_STRIP, 0).refuses("one row, none a strip", BAD_FIELDS);
        one.number(Forge.ROWS_A_STRIP, 2).shows("one row, two a strip", 8002001, 8, 9);
    }

    /** "317 (predictor; 1 if it is missing) not 1 or 2". */
    private static void predictors(boolean greatest) {
        good("predictor 1", small(greatest).number(Forge.PREDICTOR, 1));
        small(greatest).number(Forge.PREDICTOR, 2).shows("predictor 2", 8002002, 1, 3, 3, 7);
        good("none, and another field holds 2", small(greatest).tag(Forge.PREDICTOR, 316).number(Forge.PREDICTOR, 2));
        for (int p : new int[] {0, 3, 4, 255, 256, 257, 258, 32769, 65535}) {
            small(greatest).number(Forge.PREDICTOR, p).refuses("predictor " + p, BAD_FIELDS);
        }
        greatLongs(greatest, Forge.PREDICTOR);
        small(greatest).kind(Forge.PREDICTOR, 4).numberLong(Forge.PREDICTOR, 65538).refuses("predictor 65538", BAD_FIELDS);
    }

    /** A page of one column and h rows, with places of kind and lengths of kind at 40 and 140. */
    private static Forge strips(boolean greatest, int h, int rows, int kind) {
        int n = (h + rows - 1) / rows;
        int[] bytes = new int[h];
        for (int k = 0; k < h; k++) {
            bytes[k] = 20 + k;
        }
        Forge f = new Forge(greatest).shape(1, h, 8, 1).strip(bytes).number(Forge.ROWS_A_STRIP, rows);
        numbers(f, Forge.PLACES, kind, 40, n);
        numbers(f, Forge.LENGTHS, kind, 140, n);
        for (int k = 0; k < n; k++) {
            number(f, Forge.PLACES, kind, 40, n, k, 8 + k * rows);
            number(f, Forge.LENGTHS, kind, 140, n, k, Math.min(rows, h - k * rows));
        }
        return f;
    }

    private static void numbers(Forge f, int entry, int kind, int place, int n) {
        f.kind(entry, kind).count(entry, n).numberLong(entry, 0);
        if (n * (kind == 3 ? 2 : 4) > 4) {
            f.numberLong(entry, place);
        }
    }

    private static void number(Forge f, int entry, int kind, int place, int n, int k, long value) {
        int size = kind == 3 ? 2 : 4;
        int at = (n * size > 4 ? place : Forge.entry(entry) + 8) + size * k;
        if (kind == 3) {
            f.putShort(at, (int) value);
        } else {
            f.putLong(at, value);
        }
    }

    private static int[] column(int h) {
        int[] column = new int[h];
        for (int k = 0; k < h; k++) {
            column[k] = 20 + k;
        }
        return column;
    }

    /** "(273 and 279: as many values as there are strips)". */
    private static void numbersOfStrips(boolean greatest) {
        int[][] shapes = {{1, 1}, {2, 2}, {2, 1}, {3, 2}, {3, 1}, {5, 2}, {16, 16}, {16, 15}, {16, 8}, {16, 7}, {16, 2}, {16, 1}};
        for (int[] shape : shapes) {
            int h = shape[0];
            int n = (h + shape[1] - 1) / shape[1];
            for (int kind = 3; kind <= 4; kind++) {
                String what = n + " strips of " + h + " rows, kind " + kind;
                strips(greatest, h, shape[1], kind).shows(what, 8001000 + h, column(h));
                for (int count : new int[] {0, n - 1, n + 1, n + 256, 2 * n}) {
                    strips(greatest, h, shape[1], kind).count(Forge.PLACES, count).refuses(what + ", " + count + " places", BAD_FIELDS);
                    strips(greatest, h, shape[1], kind).count(Forge.LENGTHS, count).refuses(what + ", " + count + " lengths", BAD_FIELDS);
                }
                for (int bad : new int[] {1, 2, 5}) {
                    strips(greatest, h, shape[1], kind).kind(Forge.PLACES, bad).refuses(what + ", kind " + bad, BAD_FIELDS);
                    strips(greatest, h, shape[1], kind).kind(Forge.LENGTHS, bad).refuses(what + ", kind " + bad, BAD_FIELDS);
                }
            }
        }
        Forge mixed = strips(greatest, 3, 1, 3);
        numbers(mixed, Forge.LENGTHS, 4, 140, 3);
        for (int k = 0; k < 3; k++) {
            number(mixed, Forge.LENGTHS, 4, 140, 3, k, 1);
        }
        mixed.shows("places SHORT, lengths LONG", 8001003, column(3));
    }

    /** "is BROKEN": the numbers of the strips do not lie wholly in the file. */
    private static void stripNumbersOutside(boolean greatest) {
        for (int kind = 3; kind <= 4; kind++) {
            int size = kind == 3 ? 6 : 12;
            for (int entry : new int[] {Forge.PLACES, Forge.LENGTHS}) {
                for (long place : new long[] {LENGTH - size + 1, LENGTH - 1, LENGTH, 900 - size, 900, 65536 + 40, 0x80000000L, 0xffffffffL,
                    0x100000000L - size, 0xfffffffeL}) {
                    strips(greatest, 3, 1, kind).numberLong(entry, place).refuses("numbers at " + place, BAD_FIELDS);
                }
                // They take the place of the last entry's values and of the LONG behind it: the walk breaks off behind the page.
                Forge f = strips(greatest, 3, 1, kind).tag(7, 400).numberLong(entry, LENGTH - size);
                for (int k = 0; k < 3; k++) {
                    number(f, entry, kind, LENGTH - size, 3, k, entry == Forge.PLACES ? 8 + k : 1);
                }
                f.shows("numbers up to the last byte", 8001003, column(3));
            }
        }
    }

    /** "do not lie wholly in the file". */
    private static void stripsAtTheFilesEnd(boolean greatest) {
        for (int size : new int[] {1, 2, 4, 16}) {
            Forge f = new Forge(greatest).shape(size, 1, 8, 1).strip(new int[size]);
            int[] due = new int[size];
            f.poke(LENGTH - 1, 3).numberLong(Forge.PLACES, LENGTH - size);
            due[size - 1] = 3;
            if (size > 4) {
                due = f.run().file();
                due = Arrays.copyOfRange(due, LENGTH - size, LENGTH);
            }
            f.shows(size + " bytes up to the last", 8000001 + 1000 * size, due);
            for (long place : new long[] {LENGTH - size + 1, LENGTH - 1, LENGTH, LENGTH + 1, 900 - size, 900, 65535}) {
                if (place + size > LENGTH) {
                    f.numberLong(Forge.PLACES, place).refuses(size + " bytes at " + place, BAD_STRIP);
                }
            }
            int[] header = f.run().file();
            if (size <= 4) {
                f.numberLong(Forge.PLACES, 0).shows("the first bytes", 8000001 + 1000 * size, Arrays.copyOf(header, size));
            }
        }
        Run full = Run.full(greatest);
        int entry = 264 + 2 + 12 * 4 + 8;
        int[] last = greatest ? new int[] {0, 0, 644 / 256, 644 % 256} : new int[] {644 % 256, 644 / 256, 0, 0};
        full.poke(entry, last).takes("the last 256 bytes of 900", x -> x.load(0), 0);
        last[greatest ? 3 : 0]++;
        full.poke(entry, last).refuses("a byte behind 900", x -> x.load(0), BAD_STRIP);
    }

    /** "(places and lengths are added without bounds)". */
    private static void sumsWithoutBounds(boolean greatest) {
        long[][] pairs = {{0xffffffffL, 4}, {0xfffffffcL, 4}, {0xfffffffcL, 8}, {0xfffffff8L, 12}, {12, 0xfffffff8L}, {8, 0xffffffffL},
            {4, 0xfffffffcL}, {8, 0xfffffff8L}, {0x80000000L, 0x80000004L}, {0x80000008L, 0x80000000L}, {0x7fffffffL, 1}, {0x7fffffffL, 4},
            {0x80000000L, 4}, {4, 0x7fffffffL}, {8, 0x80000000L}, {8, 0x80000004L}, {8, 65536 + 4}, {65536 + 8, 4}, {0xffffffffL, 0xffffffffL}};
        for (long[] pair : pairs) {
            for (int compression : new int[] {1, 5, 32773}) {
                small(greatest).number(Forge.COMPRESSION, compression)
                        .numberLong(Forge.PLACES, pair[0]).numberLong(Forge.LENGTHS, pair[1])
                        .refuses("place " + pair[0] + ", length " + pair[1], BAD_STRIP);
            }
        }
    }

    /** "BAD_STRIP - k for the first strip k". */
    private static void firstBadStrip(boolean greatest) {
        for (int h = 1; h <= 16; h++) {
            for (int k = 0; k < h; k++) {
                for (long place : new long[] {LENGTH, 65535}) {
                    Forge f = strips(greatest, h, 1, 3);
                    number(f, Forge.PLACES, 3, 40, h, k, place);
                    f.refuses("strip " + k + " of " + h + " is outside", BAD_STRIP - k);
                }
                for (int length : new int[] {0, 2, 65535}) {
                    Forge f = strips(greatest, h, 1, 3);
                    number(f, Forge.LENGTHS, 3, 140, h, k, length);
                    f.refuses("strip " + k + " of " + h + " has length " + length, BAD_STRIP - k);
                    number(f, Forge.LENGTHS, 3, 140, h, h - 1, length);
                    number(f, Forge.PLACES, 3, 40, h, h - 1, 65535);
                    f.refuses("and so has the last", BAD_STRIP - k);
                }
            }
        }
        Forge last = strips(greatest, 16, 15, 4);
        last.shows("a last strip of one row", 8001016, column(16));
        number(last, Forge.LENGTHS, 4, 140, 2, 1, 15);
        last.refuses("a last strip as long as the first", BAD_STRIP - 1);
        number(last, Forge.LENGTHS, 4, 140, 2, 1, 1);
        number(last, Forge.LENGTHS, 4, 140, 2, 0, 16);
        last.refuses("a first strip too long", BAD_STRIP);
        number(last, Forge.LENGTHS, 4, 140, 2, 0, 14);
        last.refuses("a first strip too short", BAD_STRIP);
    }

    /** "with 2 each but the first of a row is the remainder 0 .. 2^d - 1 of the number there plus the sample on its left". */
    private static void remainders(boolean greatest) {
        int[][] pairs = {{0, 0, 0}, {0, 255, 255}, {255, 0, 255}, {1, 254, 255}, {1, 255, 0}, {255, 1, 0}, {255, 255, 254}, {128, 128, 0}};
        for (int[] pair : pairs) {
            Forge f = new Forge(greatest).shape(2, 2, 8, 1).strip(pair[0], pair[1], pair[1], pair[0]).number(Forge.PREDICTOR, 2);
            f.shows("depth 8", 8002002, pair[0], pair[2], pair[1], pair[2]);
        }
        new Forge(greatest).shape(4, 1, 4, 1).strip(0xf1, 0xff).number(Forge.PREDICTOR, 2).shows("depth 4", 4004001, 15, 0, 15, 14);
        new Forge(greatest).shape(4, 1, 2, 1).strip(0b11011111).number(Forge.PREDICTOR, 2).shows("depth 2", 2004001, 3, 0, 3, 2);
        new Forge(greatest).shape(8, 1, 1, 1).strip(0b11101011).number(Forge.PREDICTOR, 2)
                .shows("depth 1", 1008001, 1, 0, 1, 1, 0, 0, 1, 0);
        new Forge(greatest).shape(1, 3, 8, 1).strip(200, 100, 50).number(Forge.PREDICTOR, 2).shows("one column", 8001003, 200, 100, 50);
    }

    /** Fields that load does not name may be BROKEN or anything else. */
    private static void otherFieldsDoNotMatter() {
        for (int tag : new int[] {318, 32768, 65535}) {
            good("of no kind", small(false).tag(7, tag).kind(7, 0));
            good("without values", small(false).tag(7, tag).count(7, 0));
            good("outside the file", small(true).tag(7, tag).kind(7, 4).count(7, 0xffffffffL).numberLong(7, 0xffffffffL));
        }
        Run labels = Run.start().washed(3, 2, 4).text(32768, "abcdefghijkl").text(65535, "x");
        labels.page(5, 1, 2).takes("a page with labels", x -> x.load(0), 0).pictureAs("a page with labels", labels);
        labels.page(5, 1, 2).takes("a page with labels", x -> x.load(0), 0).labelsAs("a page with labels", labels);
        Run unlabelled = labels.page(5, 1, 2).then(TaggedRaster::unlabel);
        unlabelled.takes("load(0)", x -> x.load(0), 0).labelsAs("load brings none", unlabelled);
    }

    /** "the picture becomes the one that it shows", whatever there was before; "Labels stay." */
    private static void pictureBecomesThePages() {
        int[][] shapes = {{1, 1, 1}, {16, 16, 8}, {16, 1, 1}, {1, 16, 8}, {3, 5, 2}, {9, 7, 4}};
        for (int[] page : shapes) {
            for (int[] other : shapes) {
                for (int compression : new int[] {1, 5, 32773}) {
                    for (int predictor = 1; predictor <= 2; predictor++) {
                        Run written = Run.start().washed(page[0], page[1], page[2]).text(40000, "ab");
                        Run before = written.page(compression, (page[1] + 1) / 2, predictor).washed(other[0], other[1], other[2]);
                        Run after = before.takes("load(0)", x -> x.load(0), 0);
                        after.pictureAs("load(0)", written);
                        after.fileAs("load(0)", before);
                        after.labelsAs("load(0)", before);
                    }
                }
            }
        }
    }
}
