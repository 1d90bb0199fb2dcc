import java.util.ArrayList;
import java.util.List;

/** Promise 13: write. */
public final class WriteTest {
    public static void main(String[] args) {
        wholePages();
        manyStrips();
        labelPlaces();
        predictors();
        packing();
        packets();
        nibbleCodes();
        sixteenRowsOfOneNibble();
        numbersOfCodes();
        longNibbleCodes();
        wrongArguments();
        unsound();
        fullOfPages();
        fullOfBytes();
        links();
        Check.end();
    }

    private static final int[] LEAST_PAGE = {8, 0,
        0, 1, 3, 0, 1, 0, 0, 0, 1, 0, 0, 0,
        1, 1, 3, 0, 1, 0, 0, 0, 1, 0, 0, 0,
        2, 1, 3, 0, 1, 0, 0, 0, 1, 0, 0, 0,
        3, 1, 3, 0, 1, 0, 0, 0, 5, 128, 0, 0,
        17, 1, 4, 0, 1, 0, 0, 0, 8, 0, 0, 0,
        22, 1, 3, 0, 1, 0, 0, 0, 1, 0, 0, 0,
        23, 1, 4, 0, 1, 0, 0, 0, 2, 0, 0, 0,
        61, 1, 3, 0, 1, 0, 0, 0, 2, 0, 0, 0,
        0, 0, 0, 0};

    private static final int[] GREATEST_PAGE = {0, 9,
        1, 0, 0, 3, 0, 0, 0, 1, 0, 3, 0, 0,
        1, 1, 0, 3, 0, 0, 0, 1, 0, 1, 0, 0,
        1, 2, 0, 3, 0, 0, 0, 1, 0, 8, 0, 0,
        1, 3, 0, 3, 0, 0, 0, 1, 0, 1, 0, 0,
        1, 17, 0, 4, 0, 0, 0, 1, 0, 0, 0, 8,
        1, 22, 0, 3, 0, 0, 0, 1, 0, 1, 0, 0,
        1, 23, 0, 4, 0, 0, 0, 1, 0, 0, 0, 3,
        1, 61, 0, 3, 0, 0, 0, 1, 0, 1, 0, 0,
        156, 64, 0, 2, 0, 0, 0, 2, 72, 0, 0, 0,
        0, 0, 0, 0};

    private static void wholePages() {
        TaggedRaster x = new TaggedRaster();
        x.fill(0, 0, 1, 1, 1);
        Check.due("write(32773, 1, 2)", x.write(32773, 1, 2), 2 + LEAST_PAGE.length);
        Check.due("header and strip", Check.file(x, 0, 10), 73, 73, 42, 0, 10, 0, 0, 0, 0, 128);
        Check.due("directory", Check.file(x, 10, x.length()), LEAST_PAGE);
        Check.due("the picture stays", x.sample(0, 0), 1);

        x.clear(true);
        Check.picture(x, 3, 1, 8, 7, 8, 9);
        Check.text(x, 40000, "H");
        Check.due("write(1, 1, 1)", x.write(1, 1, 1), 4 + GREATEST_PAGE.length);
        Check.due("header, strip and filling byte", Check.file(x, 0, 12), 77, 77, 0, 42, 0, 0, 0, 12, 7, 8, 9, 0);
        Check.due("directory, greatest first", Check.file(x, 12, x.length()), GREATEST_PAGE);
        Check.due("the labels stay", x.unlabel(), 1);
    }

    /** Strips of odd lengths, the last one shorter; the numbers of the strips behind them. */
    private static void manyStrips() {
        TaggedRaster x = new TaggedRaster();
        Check.picture(x, 1, 5, 8, 1, 2, 3, 4, 5);
        Check.due("write(1, 1, 1)", x.write(1, 1, 1), 10 + 40 + 102);
        Check.due("five strips of a byte", Check.file(x, 8, 58), 1, 0, 2, 0, 3, 0, 4, 0, 5, 0,
                8, 0, 0, 0, 10, 0, 0, 0, 12, 0, 0, 0, 14, 0, 0, 0, 16, 0, 0, 0,
                1, 0, 0, 0, 1, 0, 0, 0, 1, 0, 0, 0, 1, 0, 0, 0, 1, 0, 0, 0);
        Check.due("the entry of places", Check.file(x, 58 + 2 + 48, 58 + 2 + 60), 17, 1, 4, 0, 5, 0, 0, 0, 18, 0, 0, 0);
        Check.due("the entry of lengths", Check.file(x, 58 + 2 + 72, 58 + 2 + 84), 23, 1, 4, 0, 5, 0, 0, 0, 38, 0, 0, 0);
        x.clear(true);
        Check.due("write(1, 3, 1)", x.write(1, 3, 1), 6 + 16 + 102);
        Check.due("two strips", Check.file(x, 8, 30), 1, 2, 3, 0, 4, 5,
                0, 0, 0, 8, 0, 0, 0, 12, 0, 0, 0, 3, 0, 0, 0, 2);
        x.clear(false);
        Check.due("write(1, 4, 1)", x.write(1, 4, 1), 6 + 16 + 102);
        Check.due("an odd last strip", Check.file(x, 8, 30), 1, 2, 3, 4, 5, 0,
                8, 0, 0, 0, 12, 0, 0, 0, 4, 0, 0, 0, 1, 0, 0, 0);
        x.clear(false);
        Check.due("write(1, 5, 1)", x.write(1, 5, 1), 6 + 102);
        Check.due("one strip", Check.file(x, 8, 14), 1, 2, 3, 4, 5, 0);
    }

    private static void labelPlaces() {
        TaggedRaster x = new TaggedRaster();
        Check.text(x, 50000, "abcde");
        Check.text(x, 40000, "vwxy");
        Check.due("two long labels", x.write(1, 1, 1), 2 + 6 + 6 + 6 + 120);
        Check.due("the lower tag first", Check.file(x, 8, 22), 0, 0, 'v', 'w', 'x', 'y', 0, 0, 'a', 'b', 'c', 'd', 'e', 0);
        Check.due("ten entries", x.byteAt(22), 10);
        Check.due("their entries", Check.file(x, 22 + 98, 22 + 126), 64, 156, 2, 0, 5, 0, 0, 0, 10, 0, 0, 0,
                80, 195, 2, 0, 6, 0, 0, 0, 16, 0, 0, 0, 0, 0, 0, 0);
        x.unlabel();
        x.clear(true);
        Check.text(x, 40000, "abc");
        Check.text(x, 40001, "ab");
        Check.due("two short labels", x.write(1, 1, 1), 2 + 126);
        Check.due("their entries", Check.file(x, 10 + 98, 10 + 126), 156, 64, 0, 2, 0, 0, 0, 4, 'a', 'b', 'c', 0,
                156, 65, 0, 2, 0, 0, 0, 3, 'a', 'b', 0, 0, 0, 0, 0, 0);
        x.unlabel();
        x.clear(false);
        Check.text(x, 65535, "q");
        Check.text(x, 32768, "abcd");
        Check.due("a long one and a short one", x.write(1, 1, 1), 2 + 6 + 126);
        Check.due("the long one's place", x.byteAt(16 + 2 + 96 + 8), 10);
        Check.due("the short one within", Check.file(x, 16 + 2 + 108, 16 + 2 + 120), 255, 255, 2, 0, 2, 0, 0, 0, 'q', 0, 0, 0);
    }

    private static int[] strip(TaggedRaster x, int compression, int rowsAStrip, int predictor) {
        x.clear(false);
        Check.due("write", x.write(compression, rowsAStrip, predictor) > 0, true);
        return Check.file(x, 8, 8 + (int) x.field(0, 279, 0));
    }

    private static void predictors() {
        TaggedRaster x = new TaggedRaster();
        Check.picture(x, 4, 2, 8, 10, 7, 7, 200, 255, 0, 255, 1);
        Check.due("predictor 1", strip(x, 1, 2, 1), 10, 7, 7, 200, 255, 0, 255, 1);
        Check.due("predictor 2", strip(x, 1, 2, 2), 10, 253, 0, 193, 255, 1, 255, 2);
        Check.picture(x, 3, 1, 2, 1, 3, 0);
        Check.due("predictor 2, depth 2", strip(x, 1, 1, 2), 0b01100100);
        Check.picture(x, 5, 1, 1, 1, 0, 1, 1, 0);
        Check.due("predictor 2, depth 1", strip(x, 1, 1, 2), 0b11101000);
        Check.due("the picture stays", Check.samples(x), 1, 0, 1, 1, 0);
    }

    private static void packing() {
        TaggedRaster x = new TaggedRaster();
        Check.picture(x, 9, 1, 1, 1, 0, 1, 1, 0, 0, 0, 1, 1);
        Check.due("depth 1", strip(x, 1, 1, 1), 0b10110001, 0b10000000);
        Check.picture(x, 5, 2, 2, 0, 1, 2, 3, 3, 3, 2, 1, 0, 1);
        Check.due("depth 2", strip(x, 1, 2, 1), 0b00011011, 0b11000000, 0b11100100, 0b01000000);
        Check.picture(x, 3, 1, 4, 1, 15, 8);
        Check.due("depth 4", strip(x, 1, 1, 1), 0x1f, 0x80);
        Check.picture(x, 8, 1, 1, 0, 0, 0, 0, 0, 0, 0, 1);
        Check.due("a row without left-over bits", strip(x, 1, 1, 1), 1);
    }

    private static void packets() {
        TaggedRaster x = new TaggedRaster();
        Check.picture(x, 1, 1, 8, 5);
        Check.due("one byte", strip(x, 32773, 1, 1), 0, 5);
        Check.picture(x, 2, 1, 8, 5, 5);
        Check.due("two equal bytes", strip(x, 32773, 1, 1), 1, 5, 5);
        Check.picture(x, 3, 1, 8, 5, 5, 5);
        Check.due("three equal bytes", strip(x, 32773, 1, 1), 254, 5);
        Check.picture(x, 8, 1, 8, 1, 2, 2, 3, 3, 3, 3, 4);
        Check.due("a pair among others", strip(x, 32773, 1, 1), 2, 1, 2, 2, 253, 3, 0, 4);
        Check.picture(x, 7, 1, 8, 3, 3, 3, 4, 4, 4, 4);
        Check.due("run behind run", strip(x, 32773, 1, 1), 254, 3, 253, 4);
        Check.picture(x, 7, 1, 8, 3, 3, 3, 4, 4, 5, 5);
        Check.due("pairs at the end", strip(x, 32773, 1, 1), 254, 3, 3, 4, 4, 5, 5);
        Check.picture(x, 5, 1, 8, 6, 5, 6, 5, 6);
        Check.due("no two neighbours equal", strip(x, 32773, 1, 1), 4, 6, 5, 6, 5, 6);
        Check.picture(x, 5, 1, 8, 6, 6, 5, 5, 6);
        Check.due("pairs only", strip(x, 32773, 1, 1), 4, 6, 6, 5, 5, 6);
        Check.picture(x, 2, 2, 8, 9, 9, 9, 9);
        Check.due("each row for itself", strip(x, 32773, 2, 1), 1, 9, 9, 1, 9, 9);
        x.begin(16, 1, 8);
        Check.due("sixteen equal bytes", strip(x, 32773, 1, 1), 241, 0);
        x.wash(1, 0, 0);
        Check.due("sixteen others", strip(x, 32773, 1, 1), 15, 0, 1, 2, 3, 4, 5, 6, 7, 8, 9, 10, 11, 12, 13, 14, 15);
        Check.due("sixteen others, told by their differences", strip(x, 32773, 1, 2), 0, 0, 242, 1);
    }

    private static void nibbleCodes() {
        TaggedRaster x = new TaggedRaster();
        Check.picture(x, 1, 1, 8, 0x2f);
        Check.due("two nibbles", strip(x, 5, 1, 1), Codes.bytes(16, 2, 15, 17));
        Check.due("two nibbles, bit by bit", strip(x, 5, 1, 1), 0b10000000, 0b10011111, 0b00010000);
        x.begin(2, 1, 8);
        Check.due("four equal nibbles", strip(x, 5, 1, 1), 0x80, 0x24, 0x08, 0x80);
        x.begin(3, 1, 8);
        Check.due("six equal nibbles", strip(x, 5, 1, 1), Codes.bytes(16, 0, 18, 19, 17));
        Check.picture(x, 4, 1, 8, 0x12, 0x12, 0x12, 0x12);
        Check.due("a row of two again and again", strip(x, 5, 1, 1), Codes.bytes(16, 1, 2, 18, 20, 2, 17));
        Check.picture(x, 3, 1, 4, 5, 5, 5);
        Check.due("left-over bits are nibbles too", strip(x, 5, 1, 1), Codes.bytes(16, 5, 18, 0, 17));
        Check.picture(x, 1, 3, 8, 7, 7, 7);
        Check.due("rows are not parted", strip(x, 5, 3, 1), Codes.bytes(16, 0, 7, 18, 18, 17));
        Check.due("strips are", strip(x, 5, 1, 1), Codes.bytes(16, 0, 7, 17));
    }

    /** The oldest of the sixteen rows that begin with one nibble is found again. */
    private static void sixteenRowsOfOneNibble() {
        TaggedRaster x = new TaggedRaster();
        Check.picture(x, 9, 2, 8, 1, 2, 3, 4, 5, 6, 7, 8, 9, 10, 11, 12, 13, 14, 15, 0, 0x15, 0x26);
        Check.due("sixteen rows of one nibble", strip(x, 5, 2, 1), Codes.bytes(16, 0, 1, 0, 2, 0, 3, 0, 4, 0, 5, 0, 6, 0, 7,
                0, 8, 0, 9, 0, 10, 0, 11, 0, 12, 0, 13, 0, 14, 0, 15, 0, 18, 5, 2, 6, 17));
    }

    /** As many codes as fill a width, or come to the last code number, and one more or fewer. */
    private static void numbersOfCodes() {
        for (int n : new int[] {2, 12, 13, 14, 44, 45, 46, 108, 109, 110, 111, 217, 218, 219}) {
            int[] samples = samplesOfCodes(n);
            Check.due("samples of " + n + " codes are known", samples.length > 0, true);
            int w = columnsFor(samples.length);
            TaggedRaster x = new TaggedRaster();
            Check.picture(x, w, samples.length / w, 8, samples);
            Check.due(n + " codes", strip(x, 5, samples.length / w, 1), Codes.bytes(Codes.of(nibbles(samples))));
        }
    }

    /** Tries samples until they take n codes beside CLEAR and END. */
    private static int[] samplesOfCodes(int n) {
        long state = n;
        for (int tries = 0; tries < 20000; tries++) {
            state = state * 6364136223846793005L + 1442695040888963407L;
            int size = 1 + (int) ((state >>> 33) % Math.min(256, n));
            int[] samples = new int[columnsFor(size) == 0 ? 0 : size];
            for (int k = 0; k < samples.length; k++) {
                state = state * 6364136223846793005L + 1442695040888963407L;
                samples[k] = (int) (state >>> 40) & 255;
            }
            int codes = 0;
            for (int code : Codes.of(nibbles(samples))) {
                codes += code == 16 || code == 17 ? 0 : 1;
            }
            if (codes == n) {
                return samples;
            }
        }
        return new int[0];
    }

    private static int columnsFor(int size) {
        for (int w = 16; w >= 1; w--) {
            if (size % w == 0 && size / w <= 16) {
                return w;
            }
        }
        return 0;
    }

    private static List<Integer> nibbles(int[] bytes) {
        List<Integer> nibbles = new ArrayList<>();
        for (int b : bytes) {
            nibbles.add(b / 16);
            nibbles.add(b % 16);
        }
        return nibbles;
    }

    /** Nibbles of all numbers, some rows of them alike. */
    private static void longNibbleCodes() {
        int[] lengths = {12, 13, 14, 15, 44, 45, 46, 47, 108, 109, 110, 111, 122, 123, 217, 218, 219, 220, 400, 511, 512};
        for (int n : lengths) {
            int size = Math.min((n + 1) / 2, 256);
            int w = size <= 16 ? size : 16;
            int h = (size + w - 1) / w;
            int[] samples = Check.samples(mixed(w, h, n));
            Check.due(n + " nibbles", strip(mixed(w, h, n), 5, h, 1), Codes.bytes(Codes.of(nibbles(samples))));
        }
    }

    private static TaggedRaster mixed(int w, int h, int n) {
        TaggedRaster x = new TaggedRaster();
        x.begin(w, h, 8);
        x.wash(37, 101, 5);
        x.fill(0, 0, w, 1, 0x35);
        x.wash(n, 7 * n, 0);
        return x;
    }

    private static void wrongArguments() {
        TaggedRaster x = new TaggedRaster();
        x.begin(4, 3, 4);
        int[][] wrong = {{0, 1, 1}, {2, 1, 1}, {4, 1, 1}, {6, 1, 1}, {-1, 1, 1}, {32772, 1, 1}, {32774, 1, 1},
            {32773 - 65536, 1, 1}, {1, 0, 1}, {1, 4, 1}, {1, -1, 1}, {1, 1, 0}, {1, 1, 3}, {1, 1, -1}, {5, 4, 2},
            {32773, Integer.MAX_VALUE, 1}, {32773, Integer.MIN_VALUE, 1}, {1, 1, Integer.MIN_VALUE}};
        for (int round = 0; round < 2; round++) {
            int[] before = Check.file(x);
            for (int[] w : wrong) {
                Check.due("write(" + w[0] + ", " + w[1] + ", " + w[2] + ")", x.write(w[0], w[1], w[2]), TaggedRaster.BAD_ARGUMENT);
            }
            Check.due("the file stays", Check.file(x), before);
            x.poke(2, 0);
        }
        Check.due("then unsound", x.write(1, 3, 1), TaggedRaster.UNSOUND);
    }

    private static void unsound() {
        for (int place : new int[] {0, 1, 2, 4}) {
            TaggedRaster x = new TaggedRaster();
            x.write(1, 1, 1);
            int before = x.byteAt(place);
            x.poke(place, before + 1);
            int[] file = Check.file(x);
            Check.due("write with byte " + place + " changed", x.write(1, 1, 1), TaggedRaster.UNSOUND);
            Check.due("the file stays", Check.file(x), file);
            x.poke(place, before);
            Check.due("write when it is sound again", x.write(1, 1, 1), 104);
        }
    }

    /** Eight small directories, forged, leave much room: the number of pages alone refuses. */
    private static void fullOfPages() {
        Forge f = new Forge(true);
        for (int k = 0; k < 8; k++) {
            int place = 8 + 18 * k;
            f.putShort(place, 1).putLong(place + 14, k == 7 ? 0 : place + 18);
        }
        f.putLong(4, 8);
        f.x.begin(1, 1, 1);
        int[] before = Check.file(f.x, 0, 154);
        Check.due("eight pages", f.x.pages(), 8);
        Check.due("a ninth page", f.x.write(1, 1, 1), TaggedRaster.FULL);
        Check.due("the directories stay", Check.file(f.x, 0, 154), before);
        Check.due("the length stays", f.x.length(), Forge.LENGTH);
        f.putLong(8 + 18 * 6 + 14, 0);
        Check.due("seven pages", f.x.pages(), 7);
        Check.due("an eighth page", f.x.write(1, 1, 1), 104);
        Check.due("eight pages now", f.x.pages(), 8);
        Check.due("sound", f.x.sound(), true);
        Check.due("the link", Check.file(f.x, 130, 134), 0, 0, (Forge.LENGTH + 2) / 256, (Forge.LENGTH + 2) % 256);
    }

    /** A plain page in one strip takes its bytes, made even, its long labels, and 102 and 12 a label more. */
    private static void fullOfBytes() {
        TaggedRaster x = new TaggedRaster();
        x.begin(16, 16, 8);
        Check.due("366 bytes", x.write(1, 16, 1), 358);
        Check.due("724 bytes", x.write(1, 16, 1), 358);
        Check.due("1082 bytes would be too many", x.write(1, 16, 1), TaggedRaster.FULL);
        x.begin(8, 7, 8);
        x.wash(1, 3, 9);
        Check.text(x, 40000, "abcdef");
        int[] header = Check.file(x, 0, 8);
        int[] directory = Check.file(x, 622, 724);
        Check.due("902 bytes would be too many", x.write(1, 7, 1), TaggedRaster.FULL);
        Check.due("the header stays", Check.file(x, 0, 8), header);
        Check.due("the last directory stays", Check.file(x, 622, 724), directory);
        Check.due("the length stays", x.length(), 724);
        Check.due("and stays sound", x.sound(), true);
        Check.due("with its pages", x.pages(), 2);
        Check.due("the labels stay", x.unlabel(), 1);
        Check.due("the picture stays", x.sample(7, 6), 34);
        Check.text(x, 40000, "abcde");
        Check.due("900 bytes fit", x.write(1, 7, 1), 56 + 6 + 114);
        Check.due("900 bytes", x.length(), 900);
        Check.due("the last byte", x.byteAt(899), 0);
        Check.due("three pages", x.pages(), 3);
        Check.due("sound", x.sound(), true);
        x.begin(8, 7, 8);
        Check.due("load(2)", x.load(2), 0);
        Check.due("the page at the end", x.sample(7, 6), 34);
        x.begin(1, 1, 1);
        x.unlabel();
        Check.due("nothing more fits", x.write(1, 1, 1), TaggedRaster.FULL);
    }

    /** The LONG that ended the walk is set, even where directories overlap other things. */
    private static void links() {
        TaggedRaster x = new TaggedRaster();
        x.clear(true);
        x.write(1, 1, 1);
        x.write(1, 1, 1);
        Check.due("the header's LONG", Check.file(x, 4, 8), 0, 0, 0, 10);
        Check.due("the first directory's", Check.file(x, 108, 112), 0, 0, 0, 114);
        Check.due("the second directory's", Check.file(x, 212, 216), 0, 0, 0, 0);
        x.poke(111, 0);
        Check.due("the first page is the last", x.pages(), 1);
        Check.due("write", x.write(1, 1, 1), 104);
        Check.due("the first directory's, again", Check.file(x, 108, 112), 0, 0, 0, 218);
        Check.due("two pages", x.pages(), 2);
        x.poke(7, 0);
        Check.due("no page", x.pages(), 0);
        Check.due("write once more", x.write(1, 1, 1), 104);
        Check.due("the header's LONG, again", Check.file(x, 4, 8), 0, 0, 1, 66);
        Check.due("the old directories stay", Check.file(x, 108, 112), 0, 0, 0, 218);
    }
}
