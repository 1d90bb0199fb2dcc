import java.util.ArrayList;
import java.util.Arrays;
import java.util.List;

/** Promise 16: load. */
public final class LoadTest {
    private static final int NO_PAGE = TaggedRaster.NO_PAGE;
    private static final int BAD_FIELDS = TaggedRaster.BAD_FIELDS;
    private static final int BAD_STRIP = TaggedRaster.BAD_STRIP;

    public static void main(String[] args) {
        whatWasWritten();
        noPage();
        for (int order = 0; order < 2; order++) {
            tagsUp(order == 1);
            missingFields(order == 1);
            brokenFields(order == 1);
            values(order == 1);
            stripNumbers(order == 1);
            stripsInTheFile(order == 1);
        }
        firstBadStrip();
        plain();
        packets();
        nibbleCodes();
        manyNibbles();
        longNibbleCodes();
        unpacking();
        labelsStay();
        Check.end();
    }

    private static void whatWasWritten() {
        for (int d = 1; d <= 8; d *= 2) {
            for (int compression : new int[] {1, 5, 32773}) {
                for (int w = 1; w <= 16; w += 3) {
                    for (int h = 1; h <= 11; h += 2) {
                        thereAndBack(w, h, d, compression);
                    }
                }
            }
        }
    }

    private static void thereAndBack(int w, int h, int d, int compression) {
        TaggedRaster x = new TaggedRaster();
        x.clear(w % 2 == 0);
        x.begin(w, h, d);
        x.wash(5 * w + 3, 7 * d + 2, h);
        x.fill(w / 2, h / 2, w - w / 2, h - h / 2, 1);
        int shape = x.shape();
        int[] samples = Check.samples(x);
        Check.due("write", x.write(compression, 1 + (w * d + h) % h, 1 + (w + h) / 2 % 2) > 0, true);
        x.begin(16, 16, 8);
        x.wash(1, 1, 1);
        Check.due("load(0)", x.load(0), 0);
        Check.due("shape()", x.shape(), shape);
        Check.due("samples", Check.samples(x), samples);
    }

    private static void noPage() {
        TaggedRaster x = new TaggedRaster();
        Check.due("load(0) of no page", x.load(0), NO_PAGE);
        x.write(1, 1, 1);
        x.fill(0, 0, 1, 1, 1);
        for (int page : new int[] {1, -1, 8, Integer.MIN_VALUE, Integer.MAX_VALUE}) {
            Check.due("load(" + page + ")", x.load(page), NO_PAGE);
        }
        Check.due("the picture stays", x.sample(0, 0), 1);
        x.poke(108, 3);
        Check.due("the walk breaks off", x.sound(), false);
        Check.due("a page before the break", x.load(0), 0);
        Check.due("its sample", x.sample(0, 0), 0);
        x.poke(2, 0);
        Check.due("no header", x.load(0), NO_PAGE);
    }

    private static Forge small(boolean greatest) {
        return new Forge(greatest).shape(2, 2, 8, 1).strip(1, 2, 3, 4);
    }

    private static void tagsUp(boolean greatest) {
        small(greatest).shows("as it is", 8002002, 1, 2, 3, 4);
        small(greatest).tag(7, 279).refuses("two equal tags", BAD_FIELDS);
        small(greatest).tag(7, 278).refuses("a tag that goes down", BAD_FIELDS);
        small(greatest).tag(7, 280).shows("other tags may stand there", 8002002, 1, 2, 3, 4);
        small(greatest).tag(7, 65535).kind(7, 99).count(7, 0).shows("broken fields of no matter", 8002002, 1, 2, 3, 4);
        small(greatest).tag(7, 0).refuses("tag 0 at the end", BAD_FIELDS);
        Forge f = new Forge(greatest).strip(5);
        f.shortEntry(0, 0, 0).shortEntry(1, 256, 1).shortEntry(2, 257, 1).shortEntry(3, 258, 8).shortEntry(4, 259, 1);
        f.shortEntry(5, 273, 8).shortEntry(6, 278, 1).shortEntry(7, 279, 1);
        f.shows("tag 0 in front", 8001001, 5);
        f.tag(0, 256).refuses("the first two tags equal", BAD_FIELDS);
        small(greatest).tag(7, 257).refuses("a field twice", BAD_FIELDS);
    }

    private static void missingFields(boolean greatest) {
        int[] other = {255, 256, 257, 260, 274, 277, 280};
        int[] tags = {256, 257, 258, 259, 273, 278, 279};
        for (int k = 0; k < 7; k++) {
            if (k != 1 && k != 2) {
                small(greatest).tag(k, other[k]).refuses("without " + tags[k], BAD_FIELDS);
            }
        }
        // 257 and 258 have no free tag beside them: another field gives way.
        small(greatest).tag(0, 0).tag(1, 256).refuses("without 257", BAD_FIELDS);
        small(greatest).tag(0, 0).tag(1, 256).tag(2, 257).refuses("without 258", BAD_FIELDS);
        small(greatest).tag(7, 316).number(7, 2).shows("without 317", 8002002, 1, 2, 3, 4);
    }

    private static void brokenFields(boolean greatest) {
        int[] shortFields = {0, 1, 2, 3, 5, 7};
        for (int k : shortFields) {
            for (int kind : new int[] {0, 1, 2, 5, 65535}) {
                small(greatest).kind(k, kind).refuses("kind " + kind + " of entry " + k, BAD_FIELDS);
            }
            for (long count : new long[] {0, 2, 3, 0x80000000L, 0xffffffffL, 0x100000001L >> 1}) {
                small(greatest).count(k, count).refuses("count " + count + " of entry " + k, BAD_FIELDS);
            }
            Forge f = small(greatest);
            long value = f.x.field(0, (int) tagOf(k), 0);
            f.kind(k, 4).numberLong(k, value).shows("entry " + k + " as LONG", 8002002, 1, 2, 3, 4);
            f.numberLong(k, value + 65536);
            if (k == Forge.ROWS_A_STRIP) {
                f.shows("very many rows a strip", 8002002, 1, 2, 3, 4);
            } else {
                f.refuses("65536 more in entry " + k, BAD_FIELDS);
            }
        }
        for (int k : new int[] {Forge.PLACES, Forge.LENGTHS}) {
            for (int kind : new int[] {0, 1, 2, 5, 65535}) {
                small(greatest).kind(k, kind).refuses("kind " + kind + " of entry " + k, BAD_FIELDS);
            }
            for (long count : new long[] {0, 2, 3, 0xffffffffL}) {
                small(greatest).count(k, count).refuses("count " + count + " of entry " + k, BAD_FIELDS);
            }
        }
        small(greatest).kind(Forge.PLACES, 3).number(Forge.PLACES, 8).kind(Forge.LENGTHS, 3).number(Forge.LENGTHS, 4)
                .shows("places and lengths as SHORTs", 8002002, 1, 2, 3, 4);
    }

    private static long tagOf(int k) {
        return new int[] {256, 257, 258, 259, 273, 278, 279, 317}[k];
    }

    private static void values(boolean greatest) {
        int[][] wrong = {{Forge.COLUMNS, 0}, {Forge.COLUMNS, 17}, {Forge.COLUMNS, 65535}, {Forge.ROWS, 0},
            {Forge.ROWS, 17}, {Forge.ROWS, 256}, {Forge.DEPTH, 0}, {Forge.DEPTH, 3}, {Forge.DEPTH, 16},
            {Forge.DEPTH, 5}, {Forge.COMPRESSION, 0}, {Forge.COMPRESSION, 2}, {Forge.COMPRESSION, 32772},
            {Forge.COMPRESSION, 32774}, {Forge.COMPRESSION, 4}, {Forge.ROWS_A_STRIP, 0}, {Forge.PREDICTOR, 0},
            {Forge.PREDICTOR, 3}, {Forge.PREDICTOR, 65535}};
        for (int[] w : wrong) {
            small(greatest).number(w[0], w[1]).refuses("value " + w[1] + " in entry " + w[0], BAD_FIELDS);
            small(greatest).number(w[0], w[1]).numberLong(Forge.PLACES, 5000).refuses("fields come before strips", BAD_FIELDS);
        }
        for (int rows : new int[] {2, 3, 16, 17, 65535}) {
            small(greatest).number(Forge.ROWS_A_STRIP, rows).shows(rows + " rows a strip", 8002002, 1, 2, 3, 4);
        }
        small(greatest).kind(Forge.ROWS_A_STRIP, 4).numberLong(Forge.ROWS_A_STRIP, 0xffffffffL)
                .shows("the most rows a strip", 8002002, 1, 2, 3, 4);
        small(greatest).number(Forge.ROWS_A_STRIP, 1).refuses("one row a strip is two strips", BAD_FIELDS);
        new Forge(greatest).shape(2, 1, 8, 1).strip(1, 2).number(Forge.ROWS_A_STRIP, 0)
                .refuses("no rows a strip of one row", BAD_FIELDS);
        small(greatest).number(Forge.PREDICTOR, 2).shows("predictor 2", 8002002, 1, 3, 3, 7);
    }

    /** Two SHORTs stand in the four bytes; two LONGs and three SHORTs stand elsewhere. */
    private static void stripNumbers(boolean greatest) {
        Forge f = new Forge(greatest).shape(2, 3, 8, 1).number(Forge.ROWS_A_STRIP, 2);
        f.strip(1, 2, 3, 4, 5, 6);
        f.kind(Forge.PLACES, 3).count(Forge.PLACES, 2).number(Forge.PLACES, 8);
        f.putShort(Forge.entry(Forge.PLACES) + 10, 12);
        f.count(Forge.LENGTHS, 2).numberLong(Forge.LENGTHS, 101).putLong(101, 4).putLong(105, 2);
        f.shows("two strips", 8002003, 1, 2, 3, 4, 5, 6);
        f.putLong(105, 1);
        f.refuses("the second is too short", BAD_STRIP - 1);
        f.putLong(105, 3);
        f.refuses("the second is too long", BAD_STRIP - 1);
        f.putLong(105, 2).numberLong(Forge.LENGTHS, Forge.LENGTH - 7);
        f.refuses("lengths behind the file", BAD_FIELDS);
        f.numberLong(Forge.LENGTHS, 101).number(Forge.ROWS_A_STRIP, 1);
        f.refuses("three strips, two numbers", BAD_FIELDS);
        f.kind(Forge.PLACES, 3).count(Forge.PLACES, 3).numberLong(Forge.PLACES, 120);
        f.putShort(120, 8).putShort(122, 8).putShort(124, 12);
        f.kind(Forge.LENGTHS, 3).count(Forge.LENGTHS, 3).putShort(101, 2).putShort(103, 2).putShort(105, 2);
        f.shows("three strips that share bytes", 8002003, 1, 2, 1, 2, 5, 6);
        f.number(Forge.ROWS_A_STRIP, 3).refuses("one strip, three numbers", BAD_FIELDS);
    }

    private static void stripsInTheFile(boolean greatest) {
        Forge f = small(greatest);
        f.numberLong(Forge.PLACES, Forge.LENGTH - 4).shows("the last four bytes", 8002002, 0, 0, 0, 0);
        f.numberLong(Forge.PLACES, Forge.LENGTH - 3).refuses("one byte outside", BAD_STRIP);
        for (long place : new long[] {366, 900, 0x7fffffffL, 0x80000000L, 0xfffffffcL, 0xffffffffL}) {
            f.numberLong(Forge.PLACES, place).refuses("place " + place, BAD_STRIP);
        }
        f.numberLong(Forge.PLACES, 8);
        for (long size : new long[] {0, 3, 5, 358, 359, 0x7fffffffL, 0xfffffff8L, 0xffffffffL, 0x80000004L}) {
            f.numberLong(Forge.LENGTHS, size).refuses("length " + size, BAD_STRIP);
        }
        int mark = greatest ? 77 : 73;
        f.numberLong(Forge.LENGTHS, 4).numberLong(Forge.PLACES, 0)
                .shows("the header as a strip", 8002002, mark, mark, greatest ? 0 : 42, greatest ? 42 : 0);
        f.numberLong(Forge.LENGTHS, 0xfffffff8L).numberLong(Forge.PLACES, 12).refuses("a sum of 2^32 + 4", BAD_STRIP);
    }

    private static void firstBadStrip() {
        TaggedRaster x = new TaggedRaster();
        x.begin(3, 16, 8);
        x.wash(1, 3, 5);
        x.write(32773, 1, 1);
        for (int k = 15; k >= 0; k--) {
            int place = (int) x.field(0, 273, k);
            x.poke(place, 3);
            x.begin(2, 2, 2);
            Check.due("strip " + k + " is the first bad one", x.load(0), BAD_STRIP - k);
            Check.due("the picture stays", x.shape(), 2002002);
            Check.due("its samples too", Check.samples(x), 0, 0, 0, 0);
        }
    }

    private static void plain() {
        new Forge(false).shape(3, 1, 8, 1).strip(1, 2, 3).shows("three bytes", 8003001, 1, 2, 3);
        new Forge(false).shape(3, 1, 8, 1).strip(1, 2).refuses("two bytes", BAD_STRIP);
        new Forge(false).shape(3, 1, 8, 1).strip(1, 2, 3, 4).refuses("four bytes", BAD_STRIP);
        new Forge(false).shape(3, 1, 8, 1).strip().refuses("no bytes", BAD_STRIP);
    }

    private static void packed(String what, boolean good, int... bytes) {
        Forge f = new Forge(false).shape(2, 3, 8, 32773).strip(bytes);
        if (good) {
            f.shows(what, 8002003, 7, 7, 7, 7, 8, 9);
        } else {
            f.refuses(what, BAD_STRIP);
        }
    }

    private static void packets() {
        packed("a run over rows", true, 253, 7, 1, 8, 9);
        packed("as they are", true, 5, 7, 7, 7, 7, 8, 9);
        packed("one by one", true, 0, 7, 0, 7, 0, 7, 0, 7, 0, 8, 0, 9);
        packed("runs of two", true, 255, 7, 255, 7, 1, 8, 9);
        packed("with bytes 128", true, 128, 128, 253, 7, 128, 1, 8, 9, 128, 128);
        packed("only 128", false, 128, 128);
        packed("no bytes", false);
        packed("too few", false, 253, 7, 0, 8);
        packed("too many", false, 253, 7, 1, 8, 9, 0, 1);
        packed("a run too long", false, 252, 7, 1, 8, 9);
        packed("the longest run", false, 129, 7);
        packed("the longest packet", false, 127, 7, 7, 7, 7, 8, 9);
        packed("cut off in a packet", false, 253, 7, 1, 8);
        packed("cut off in a run", false, 253, 7, 1, 8, 9, 255);
        packed("cut off behind all", false, 253, 7, 1, 8, 9, 0);
        Forge f = new Forge(true).shape(16, 16, 8, 32773).strip(129, 3, 129, 4);
        int[] due = new int[256];
        Arrays.fill(due, 0, 128, 3);
        Arrays.fill(due, 128, 256, 4);
        f.shows("two runs of 128", 8016016, due);
        int[] bytes = new int[131];
        bytes[0] = 127;
        for (int k = 0; k < 128; k++) {
            bytes[k + 1] = 255 - k;
            due[k] = 255 - k;
        }
        bytes[129] = 129;
        bytes[130] = 4;
        f.strip(bytes).shows("a packet of 128", 8016016, due);
        new Forge(true).shape(16, 16, 8, 32773).strip(129, 3, 129, 4, 129, 5).refuses("three runs of 128", BAD_STRIP);
        new Forge(true).shape(16, 16, 8, 32773).strip(129, 3, 129, 4, 0, 5).refuses("257 bytes", BAD_STRIP);
        new Forge(true).shape(16, 16, 8, 32773).strip(129, 3, 130, 4).refuses("255 bytes", BAD_STRIP);
        f = new Forge(true).shape(2, 3, 8, 32773).strip(253, 7, 1, 8, 9).numberLong(Forge.LENGTHS, 4);
        f.refuses("what follows the strip is not read", BAD_STRIP);
    }

    private static void coded(String what, boolean good, int... bytes) {
        Forge f = new Forge(false).shape(3, 1, 8, 5).strip(bytes);
        if (good) {
            f.shows(what, 8003001, 0x11, 0x11, 0x12);
        } else {
            f.refuses(what, BAD_STRIP);
        }
    }

    private static int[] with(int[] bytes, int... more) {
        int[] all = Arrays.copyOf(bytes, bytes.length + more.length);
        System.arraycopy(more, 0, all, bytes.length, more.length);
        return all;
    }

    private static void nibbleCodes() {
        coded("single nibbles", true, Codes.bytes(16, 1, 1, 1, 1, 1, 2, 17));
        coded("without CLEAR", true, Codes.bytes(1, 1, 1, 1, 1, 2, 17));
        coded("with many CLEARs", true, Codes.bytes(16, 16, 1, 16, 1, 1, 16, 16, 1, 1, 2, 16, 17));
        coded("a code that is just being made", true, Codes.bytes(16, 1, 18, 18, 2, 17));
        coded("a nibble too many by codes just being made", false, Codes.bytes(16, 1, 18, 19, 2, 17));
        coded("a code of the table", true, Codes.bytes(16, 1, 1, 1, 18, 2, 17));
        coded("a code just being made, later", true, Codes.bytes(16, 1, 1, 1, 20, 2, 17));
        coded("a code one too high", false, Codes.bytes(16, 1, 19, 1, 1, 2, 17));
        coded("a table code first", false, Codes.bytes(16, 18, 1, 1, 2, 17));
        coded("a table code first without CLEAR", false, Codes.bytes(18, 1, 1, 1, 2, 17));
        coded("a code that CLEAR took", false, Codes.bytes(16, 1, 1, 16, 18, 1, 2, 17));
        coded("a code that CLEAR took, later", false, Codes.bytes(16, 1, 1, 1, 16, 1, 19, 2, 17));
        coded("a code that CLEAR took, made anew", true, Codes.bytes(16, 1, 16, 1, 18, 1, 2, 17));
        coded("no END", false, Codes.bytes(16, 1, 1, 1, 1, 1, 2));
        coded("no END, but CLEAR", false, Codes.bytes(16, 1, 1, 1, 1, 1, 2, 16));
        coded("no bytes", false);
        coded("END at once", false, Codes.bytes(17));
        coded("too few", false, Codes.bytes(16, 1, 1, 1, 1, 1, 17));
        coded("too many", false, Codes.bytes(16, 1, 1, 1, 1, 1, 2, 2, 17));
        coded("too many by a table code", false, Codes.bytes(16, 1, 1, 1, 1, 2, 18, 17));
        coded("what follows END", true, with(Codes.bytes(16, 1, 1, 1, 1, 1, 2, 17), 255, 255, 0, 7));
        int[] bytes = Codes.bytes(16, 1, 1, 1, 1, 1, 2, 17);
        coded("40 bits, cut off", false, Arrays.copyOf(bytes, bytes.length - 1));
        // 7 codes of 5 bits: the last byte holds three of END's bits and five that follow it.
        bytes = Codes.bytes(1, 1, 1, 1, 1, 2, 17);
        bytes[4] |= 31;
        coded("bits that follow END", true, bytes);
        bytes = Codes.bytes(16, 1, 18, 18, 2, 17);
        coded("END's bits are not all there", false, Arrays.copyOf(bytes, 3));
        new Forge(false).shape(3, 1, 8, 5).strip(bytes).numberLong(Forge.LENGTHS, 3)
                .refuses("END's bits follow the strip", BAD_STRIP);
        new Forge(false).shape(3, 1, 8, 5).strip(with(bytes, 0)).numberLong(Forge.LENGTHS, 4)
                .shows("END's bits are just there", 8003001, 0x11, 0x11, 0x12);
        Forge f = new Forge(false).shape(1, 2, 8, 5).number(Forge.ROWS_A_STRIP, 1).strip(Codes.bytes(3, 4, 17));
        f.kind(Forge.PLACES, 3).count(Forge.PLACES, 2).putShort(Forge.entry(Forge.PLACES) + 8, 8);
        f.putShort(Forge.entry(Forge.PLACES) + 10, 20);
        f.kind(Forge.LENGTHS, 3).count(Forge.LENGTHS, 2).putShort(Forge.entry(Forge.LENGTHS) + 8, 2);
        f.putShort(Forge.entry(Forge.LENGTHS) + 10, 2);
        bytes = Codes.bytes(5, 6, 17);
        f.poke(20, bytes[0]).poke(21, bytes[1]).shows("each strip without CLEAR", 8001002, 0x34, 0x56);
        bytes = Codes.bytes(18, 17);
        f.poke(20, bytes[0]).poke(21, bytes[1]).refuses("a code of the strip before", BAD_STRIP - 1);
    }

    /** Rows of 1, 2, .. and 31 nibbles 0 make 496; the greatest picture takes 16 more, and not 17. */
    private static void manyNibbles() {
        Forge f = new Forge(false).shape(16, 16, 8, 5);
        f.strip(growing(15, 17)).shows("512 nibbles", 8016016, new int[256]);
        f.strip(growing(14, 17)).refuses("511 nibbles", BAD_STRIP);
        f.strip(growing(16, 17)).refuses("513 nibbles", BAD_STRIP);
        f.strip(growing(31, 17)).refuses("528 nibbles", BAD_STRIP);
        f.strip(growing(15, 48)).refuses("512 nibbles and a row more", BAD_STRIP);
    }

    private static int[] growing(int beforeLast, int last) {
        int[] codes = new int[33];
        for (int k = 1; k <= 30; k++) {
            codes[k] = 17 + k;
        }
        codes[31] = 17 + beforeLast;
        codes[32] = last;
        return Codes.bytes(codes);
    }

    /** Samples of many nibbles by single codes: widths, a table that is full, codes up to 126. */
    private static void longNibbleCodes() {
        for (int singles : new int[] {12, 13, 14, 15, 44, 45, 46, 47, 108, 109, 110, 111, 112, 130, 256}) {
            List<Integer> codes = new ArrayList<>();
            for (int k = 0; k < singles; k++) {
                codes.add(k * 7 % 16);
            }
            longRun("only " + singles, codes);
            int latest = Math.min(16 + singles + 1, 126);
            for (int code : new int[] {18, latest - 1, latest}) {
                codes.add(code);
                longRun(singles + " and code " + code, codes);
                codes.remove(singles);
            }
            int[] bad = {latest + 1, 127};
            for (int code : bad) {
                if (code < 1 << Codes.width(singles + 1)) {
                    codes.add(code);
                    longRun(singles + " and bad code " + code, codes);
                    codes.remove(singles);
                }
            }
            codes.add(16);
            codes.add(3);
            codes.add(18);
            longRun(singles + " and CLEAR", codes);
        }
    }

    private static void longRun(String what, List<Integer> codes) {
        List<Integer> all = new ArrayList<>(codes);
        for (int pad = 0; pad < 3; pad++) {
            all.add(17);
            int[] bytes = Codes.bytes(all.stream().mapToInt(Integer::intValue).toArray());
            all.remove(all.size() - 1);
            List<Integer> nibbles = Codes.read(bytes);
            if (nibbles == null) {
                new Forge(true).shape(16, 16, 8, 5).strip(bytes).refuses(what, BAD_STRIP);
                return;
            }
            if (nibbles.size() % 2 == 0 && shapeOf(nibbles.size() / 2) != 0) {
                int[] samples = new int[nibbles.size() / 2];
                for (int k = 0; k < samples.length; k++) {
                    samples[k] = nibbles.get(2 * k) * 16 + nibbles.get(2 * k + 1);
                }
                int w = shapeOf(samples.length);
                Forge f = new Forge(true).shape(w, samples.length / w, 8, 5).strip(bytes);
                f.shows(what, 8000000 + 1000 * w + samples.length / w, samples);
                return;
            }
            all.add(pad + 1);
        }
        // A number of nibbles that no picture has: then at least it is refused, not read.
        int[] bytes = Codes.bytes(all.stream().mapToInt(Integer::intValue).toArray());
        new Forge(true).shape(16, 16, 8, 5).strip(bytes).refuses(what, BAD_STRIP);
    }

    /** As many columns as make rows of so many bytes, 0 when none do. */
    private static int shapeOf(int bytes) {
        for (int w = 16; w >= 1; w--) {
            if (bytes % w == 0 && bytes / w <= 16) {
                return w;
            }
        }
        return 0;
    }

    private static void unpacking() {
        Forge f = new Forge(false).shape(5, 2, 1, 1).strip(0b10110111, 0b01001111);
        f.shows("left-over bits are not looked at", 1005002, 1, 0, 1, 1, 0, 0, 1, 0, 0, 1);
        f.number(Forge.PREDICTOR, 2).shows("depth 1 by differences", 1005002, 1, 1, 0, 1, 1, 0, 1, 1, 1, 0);
        f = new Forge(false).shape(3, 1, 2, 1).strip(0b11011001);
        f.shows("depth 2", 2003001, 3, 1, 2);
        f.number(Forge.PREDICTOR, 2).shows("depth 2 by differences", 2003001, 3, 0, 2);
        f = new Forge(false).shape(3, 1, 4, 1).strip(0xfe, 0x3c);
        f.shows("depth 4", 4003001, 15, 14, 3);
        f.number(Forge.PREDICTOR, 2).shows("depth 4 by differences", 4003001, 15, 13, 0);
        f = new Forge(false).shape(2, 2, 8, 1).strip(200, 100, 255, 1).number(Forge.PREDICTOR, 2);
        f.shows("depth 8 by differences", 8002002, 200, 44, 255, 0);
    }

    private static void labelsStay() {
        TaggedRaster x = new TaggedRaster();
        Check.text(x, 40000, "abc");
        x.write(1, 1, 1);
        x.unlabel();
        Check.due("load brings no labels", x.load(0), 0);
        Check.due("there are none", x.unlabel(), 0);
        Check.text(x, 50000, "z");
        Check.due("load takes no labels", x.load(0), 0);
        int[] before = Check.file(x);
        Check.due("there is one", x.unlabel(), 1);
        Check.due("load leaves the file", Check.file(x), before);
    }
}
