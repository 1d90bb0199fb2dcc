import java.util.ArrayList;
import java.util.Arrays;
import java.util.List;
import java.util.regex.Matcher;
import java.util.regex.Pattern;

/** The edges of STRIPS and of the three COMPRESSIONS, as they are written: each method stands for the sentence above it. */
public final class StripEdgesTest {
    public static void main(String[] args) {
        rowsOfStrips();
        bytesOfRows();
        leftOverBits();
        predictorOne();
        predictorTwo();
        predictorTwoBeginsEachRow();
        plainAsTheyAre();
        packetsOfOneRow();
        packetsOfAllShortRows();
        packetsKeepToTheirRow();
        allPairsOfNibbles();
        fullBytesOfCodes();
        rowsOfEqualNibbles();
        everyNumberOfCodes();
        stripsShareNoTable();
        Check.end();
    }

    /** The bytes of strip k as written by compression, rows a strip and predictor. */
    private static int[] strip(Run run, int compression, int rows, int predictor, int k) {
        TaggedRaster x = run.clear(false).page(compression, rows, predictor).object();
        int place = (int) x.field(0, 273, k);
        return Check.file(x, place, place + (int) x.field(0, 279, k));
    }

    /** "With r rows a strip (r from 1 to h), strip k has the rows k r to k r + r - 1, as far as the picture has them." */
    private static void rowsOfStrips() {
        for (int h = 1; h <= 16; h++) {
            for (int r = 1; r <= h; r++) {
                int rows = r;
                Run run = Run.start().picture(1, h, 8);
                Run washed = run.then(x -> x.wash(0, 3, 7));
                TaggedRaster x = washed.page(1, rows, 1).object();
                int place = 8;
                int k = 0;
                String what = h + " rows, " + r + " a strip: ";
                for (int row = 0; row < h; row += r) {
                    int length = Math.min(r, h - row);
                    Check.due(what + "place " + k, x.field(0, 273, k), place);
                    Check.due(what + "length " + k, x.field(0, 279, k), length);
                    Check.due(what + "first byte of " + k, x.byteAt(place), 3 * row + 7);
                    Check.due(what + "last byte of " + k, x.byteAt(place + length - 1), 3 * (row + length - 1) + 7);
                    place += length + length % 2;
                    k++;
                }
                Check.due(what + "places", x.fieldCount(0, 273), k);
                Check.due(what + "lengths", x.fieldCount(0, 279), k);
                Check.due(what + "rows a strip", x.field(0, 278, 0), r);
                washed.page(1, rows, 1).takes(what + "load(0)", y -> y.load(0), 0).pictureAs(what + "load(0)", washed);
            }
        }
    }

    /** "A row then takes (w d + 7) / 8 bytes, rounded down", from one byte to sixteen. */
    private static void bytesOfRows() {
        int[][] due = {
            {1, 1, 1, 1, 1, 1, 1, 1, 2, 2, 2, 2, 2, 2, 2, 2},
            {1, 1, 1, 1, 2, 2, 2, 2, 3, 3, 3, 3, 4, 4, 4, 4},
            {1, 1, 2, 2, 3, 3, 4, 4, 5, 5, 6, 6, 7, 7, 8, 8},
            {1, 2, 3, 4, 5, 6, 7, 8, 9, 10, 11, 12, 13, 14, 15, 16}};
        for (int depth = 0; depth < 4; depth++) {
            for (int w = 1; w <= 16; w++) {
                Run run = Run.start().washed(w, 3, 1 << depth);
                int bytes = due[depth][w - 1];
                Check.due("bytes of one row", strip(run, 1, 1, 1, 2).length, bytes);
                Check.due("bytes of two rows", strip(run, 1, 2, 1, 0).length, 2 * bytes);
                Check.due("bytes of three rows", strip(run, 1, 3, 2, 0).length, 3 * bytes);
            }
        }
    }

    /** "its samples, d bits each, from the highest bit of the first byte on; bits left over in the last byte are 0". */
    private static void leftOverBits() {
        for (int d = 1; d <= 8; d *= 2) {
            for (int w = 1; w <= 16; w++) {
                for (int predictor = 1; predictor <= 2; predictor++) {
                    Run run = Run.start().washed(w, 2, d);
                    int[] samples = run.samples();
                    int[] due = new int[2 * ((w * d + 7) / 8)];
                    for (int k = 0; k < 2 * w; k++) {
                        int left = predictor == 2 && k % w > 0 ? samples[k - 1] : 0;
                        int value = (samples[k] - left + (1 << d)) % (1 << d);
                        int bit = due.length / 2 * 8 * (k / w) + k % w * d;
                        due[bit / 8] += value << (8 - d - bit % 8);
                    }
                    Check.due(w + " samples of depth " + d + ", predictor " + predictor, strip(run, 1, 2, predictor, 0), due);
                }
            }
        }
        Check.due("one bit of eight", strip(Run.start().picture(1, 1, 1, 1), 1, 1, 1, 0), 128);
        Check.due("seven bits", strip(Run.start().picture(7, 1, 1, 1, 1, 1, 1, 1, 1, 1), 1, 1, 1, 0), 254);
        Check.due("eight bits", strip(Run.start().picture(8, 1, 1, 1, 1, 1, 1, 1, 1, 1, 1), 1, 1, 1, 0), 255);
        Check.due("nine bits", strip(Run.start().picture(9, 1, 1, 1, 1, 1, 1, 1, 1, 1, 1, 1), 1, 1, 1, 0), 255, 128);
        Check.due("two bits of depth 2", strip(Run.start().picture(1, 1, 2, 3), 1, 1, 1, 0), 192);
        Check.due("four bits of depth 4", strip(Run.start().picture(1, 1, 4, 15), 1, 1, 1, 0), 240);
    }

    /** "PREDICTOR 1: every sample as it is." */
    private static void predictorOne() {
        Run run = Run.start().picture(4, 2, 8, 0, 255, 0, 1, 255, 255, 1, 0);
        Check.due("predictor 1", strip(run, 1, 2, 1, 0), 0, 255, 0, 1, 255, 255, 1, 0);
    }

    /** "each sample but the first becomes itself minus the sample on its left, plus 2^d if that is below 0". */
    private static void predictorTwo() {
        for (int d = 1; d <= 8; d *= 2) {
            int by = 1 << d;
            int most = by - 1;
            int[][] pairs = {{0, 0, 0}, {0, 1, 1}, {1, 0, most}, {1, 1, 0}, {0, most, most}, {most, 0, 1}, {most, most, 0},
                {most - 1, most, 1}, {most, most - 1, most}};
            for (int[] pair : pairs) {
                Run run = Run.start().picture(2, 1, d, pair[0], pair[1]);
                int bits = (pair[0] << d | pair[2]) << (16 - 2 * d);
                int[] due = d == 8 ? new int[] {bits >> 8, bits & 255} : new int[] {bits >> 8};
                Check.due(pair[0] + " and " + pair[1] + " of depth " + d, strip(run, 1, 1, 2, 0), due);
                run.page(1, 1, 2).takes("load(0)", x -> x.load(0), 0).pictureAs("there and back", run);
            }
        }
        Run run = Run.start().picture(5, 1, 8, 10, 9, 9, 200, 3);
        Check.due("as both are in the picture", strip(run, 1, 1, 2, 0), 10, 255, 0, 191, 59);
        run.page(1, 1, 2).pictureAs("the picture itself stays", run);
    }

    /** "in every row each sample but the first": the first of a row is as it is. */
    private static void predictorTwoBeginsEachRow() {
        Run run = Run.start().picture(2, 3, 8, 7, 9, 100, 100, 255, 0);
        Check.due("three rows", strip(run, 1, 3, 2, 0), 7, 2, 100, 0, 255, 1);
        Check.due("the second of three strips", strip(run, 1, 1, 2, 1), 100, 0);
        Run column = Run.start().picture(1, 3, 8, 7, 9, 100);
        Check.due("one column", strip(column, 1, 3, 2, 0), 7, 9, 100);
    }

    /** "1. The DATA as they are.": the least and the greatest strip. */
    private static void plainAsTheyAre() {
        Check.due("one byte", strip(Run.start().picture(1, 1, 8, 255), 1, 1, 1, 0), 255);
        Run run = Run.start().washed(16, 16, 8);
        TaggedRaster x = run.page(1, 16, 1).object();
        Check.due("its length", x.field(0, 279, 0), 256);
        Check.due("256 bytes", Arrays.copyOfRange(run.page(1, 16, 1).file(), 8, 264), run.samples());
    }

    private static void packed(String what, int[] row, int... due) {
        Check.due(what, strip(Run.start().picture(row.length, 1, 8, row), 32773, 1, 1, 0), due);
    }

    /** "if this and the next two bytes of the row are equal ... Otherwise the n bytes up to the next place". */
    private static void packetsOfOneRow() {
        packed("one byte", new int[] {9}, 0, 9);
        packed("two equal bytes", new int[] {9, 9}, 1, 9, 9);
        packed("three equal bytes", new int[] {9, 9, 9}, 254, 9);
        packed("four equal bytes", new int[] {9, 9, 9, 9}, 253, 9);
        packed("two others", new int[] {8, 9}, 1, 8, 9);
        packed("two equal at the end", new int[] {8, 9, 9}, 2, 8, 9, 9);
        packed("two equal in front", new int[] {9, 9, 8}, 2, 9, 9, 8);
        packed("three equal at the end", new int[] {8, 9, 9, 9}, 0, 8, 254, 9);
        packed("three equal in front", new int[] {9, 9, 9, 8}, 254, 9, 0, 8);
        packed("three and two", new int[] {9, 9, 9, 8, 8}, 254, 9, 1, 8, 8);
        packed("two and three", new int[] {9, 9, 8, 8, 8}, 1, 9, 9, 254, 8);
        packed("three and three", new int[] {9, 9, 9, 8, 8, 8}, 254, 9, 254, 8);
        packed("three around one", new int[] {9, 9, 9, 8, 9, 9, 9}, 254, 9, 0, 8, 254, 9);
        packed("two around one", new int[] {9, 9, 8, 9, 9}, 4, 9, 9, 8, 9, 9);
        int[] row = new int[16];
        packed("sixteen equal", row, 241, 0);
        row[15] = 1;
        packed("fifteen equal and one", row, 242, 0, 0, 1);
        row[14] = 1;
        packed("fourteen equal and two", row, 243, 0, 1, 1, 1);
        row[13] = 1;
        packed("thirteen equal and three", row, 244, 0, 254, 1);
        packed("sixteen others", new int[] {1, 2, 3, 4, 5, 6, 7, 8, 9, 10, 11, 12, 13, 14, 15, 16},
                15, 1, 2, 3, 4, 5, 6, 7, 8, 9, 10, 11, 12, 13, 14, 15, 16);
        packed("thirteen others and three equal", new int[] {1, 2, 3, 4, 5, 6, 7, 8, 9, 10, 11, 12, 13, 255, 255, 255},
                12, 1, 2, 3, 4, 5, 6, 7, 8, 9, 10, 11, 12, 13, 254, 255);
        packed("fourteen others and two equal", new int[] {1, 2, 3, 4, 5, 6, 7, 8, 9, 10, 11, 12, 13, 14, 255, 255},
                15, 1, 2, 3, 4, 5, 6, 7, 8, 9, 10, 11, 12, 13, 14, 255, 255);
    }

    /** All rows of up to nine bytes 97 and 98, and of up to five of three bytes, against a pattern over texts. */
    private static void packetsOfAllShortRows() {
        for (int letters = 2; letters <= 3; letters++) {
            for (int n = 1; n <= (letters == 2 ? 9 : 5); n++) {
                for (int number = 0; number < Math.pow(letters, n); number++) {
                    int[] row = new int[n];
                    int rest = number;
                    for (int k = 0; k < n; k++) {
                        row[k] = 97 + rest % letters;
                        rest /= letters;
                    }
                    packed("row " + Arrays.toString(row), row, byPattern(row));
                }
            }
        }
    }

    private static int[] byPattern(int[] row) {
        StringBuilder text = new StringBuilder();
        for (int b : row) {
            text.append((char) b);
        }
        List<Integer> due = new ArrayList<>();
        Matcher parts = Pattern.compile("(?<run>(.)\\2\\2+)|(?:(?!(.)\\3\\3).)+").matcher(text);
        while (parts.find()) {
            String part = parts.group();
            boolean run = parts.group("run") != null;
            due.add(run ? 257 - part.length() : part.length() - 1);
            (run ? part.substring(0, 1) : part).chars().forEach(due::add);
        }
        return due.stream().mapToInt(Integer::intValue).toArray();
    }

    /** "Each row for itself as packets." */
    private static void packetsKeepToTheirRow() {
        Run run = Run.start().picture(2, 3, 8, 9, 9, 9, 9, 9, 9);
        Check.due("six equal bytes in three rows", strip(run, 32773, 3, 1, 0), 1, 9, 9, 1, 9, 9, 1, 9, 9);
        run = Run.start().picture(3, 2, 8, 9, 9, 9, 9, 9, 9);
        Check.due("six equal bytes in two rows", strip(run, 32773, 2, 1, 0), 254, 9, 254, 9);
        run = Run.start().picture(1, 3, 8, 9, 9, 9);
        Check.due("three equal bytes in three rows", strip(run, 32773, 3, 1, 0), 0, 9, 0, 9, 0, 9);
        run = Run.start().picture(4, 2, 8, 8, 8, 9, 9, 9, 7, 7, 7);
        Check.due("three equal bytes over a row's end", strip(run, 32773, 2, 1, 0), 3, 8, 8, 9, 9, 0, 9, 254, 7);
        Check.due("the second strip", strip(run, 32773, 1, 1, 1), 0, 9, 254, 7);
        Run bits = Run.start().picture(16, 2, 1, new int[32]);
        Check.due("rows of two bytes", strip(bits, 32773, 2, 1, 0), 1, 0, 0, 1, 0, 0);
    }

    /** "0 .. 15 are a nibble each": all pairs, bit by bit; "First CLEAR is written, with 5 bits"; "In the end END". */
    private static void allPairsOfNibbles() {
        for (int b = 0; b < 256; b++) {
            int bits = (16 << 15 | b / 16 << 10 | b % 16 << 5 | 17) << 4;
            Check.due("byte " + b, strip(Run.start().picture(1, 1, 8, b), 5, 1, 1, 0), bits >> 16, bits >> 8 & 255, bits & 255);
        }
    }

    /** "after the last, 0 bits fill up the byte": none where the byte is full, up to seven where it has just begun. */
    private static void fullBytesOfCodes() {
        Run run = Run.start().picture(3, 1, 8, 0x12, 0x34, 0x56);
        Check.due("forty bits", strip(run, 5, 1, 1, 0), 0b10000000, 0b01000100, 0b00110010, 0b00010100, 0b11010001);
        run = Run.start().picture(2, 1, 8, 0x12, 0x34);
        Check.due("thirty bits", strip(run, 5, 1, 1, 0), 0b10000000, 0b01000100, 0b00110010, 0b01000100);
        run = Run.start().picture(2, 1, 8, 0x12, 0x12);
        Check.due("twenty-five bits", strip(run, 5, 1, 1, 0), 0b10000000, 0b01000101, 0b00101000, 0b10000000);
    }

    /** "the longest row of nibbles that ... the remaining nibbles begin with": rows grow by one each time. */
    private static void rowsOfEqualNibbles() {
        int[] nibbles = {2, 4, 6, 10, 12, 20, 30, 42, 56, 72, 90, 110, 130, 182, 210, 512};
        for (int n : nibbles) {
            int w = columnsFor(n / 2);
            Run run = Run.start().then(x -> {
                x.begin(w, n / 2 / w, 8);
                x.fill(0, 0, w, n / 2 / w, 0x77);
            });
            List<Integer> codes = new ArrayList<>(List.of(16));
            int rest = n;
            for (int size = 1; rest > 0; size++) {
                int taken = Math.min(size, rest);
                codes.add(taken == 1 ? 7 : 16 + taken);
                rest -= taken;
            }
            codes.add(17);
            Check.due(n + " equal nibbles", strip(run, 5, n / 2 / w, 1, 0), bytes(codes));
            run.page(5, n / 2 / w, 1).takes("load(0)", x -> x.load(0), 0).pictureAs(n + " equal nibbles", run);
        }
    }

    private static int[] bytes(List<Integer> codes) {
        return Codes.bytes(codes.stream().mapToInt(Integer::intValue).toArray());
    }

    private static int columnsFor(int size) {
        for (int w = 16; w >= 1; w--) {
            if (size % w == 0 && size / w <= 16) {
                return w;
            }
        }
        return 0;
    }

    /** "Code number 1 to 13 takes 5 bits, 14 to 45 takes 6, later ones 7"; "if that was code number 109, CLEAR". */
    private static void everyNumberOfCodes() {
        int seen = 0;
        for (int n = 2; n <= 240; n++) {
            int groups = 0;
            while (groups < 8 && ((n + groups) % 2 == 1 || columnsFor((n + groups) / 2) == 0 || 3 * groups > n)) {
                groups++;
            }
            boolean edge = n <= 14 || n >= 44 && n <= 47 || n >= 107 && n <= 112 || n >= 216 && n <= 220;
            Check.due("an edge that a picture comes to: " + n, groups < 8 || !edge, true);
            if (groups < 8) {
                numberOfCodes(n, groups);
                seen++;
            }
        }
        Check.due("most numbers are met", seen > 200, true);
    }

    /** Each group a b a b takes three codes; behind them no two nibbles come twice before CLEAR, so each takes one. */
    private static void numberOfCodes(int n, int groups) {
        boolean[][] used = new boolean[16][16];
        List<Integer> nibbles = new ArrayList<>();
        List<Integer> codes = new ArrayList<>(List.of(16));
        for (int g = 0; g < groups; g++) {
            int a = 2 * g;
            nibbles.addAll(List.of(a, a + 1, a, a + 1));
            codes.addAll(List.of(a, a + 1, 18 + 3 * g));
            used[a][a + 1] = true;
            used[a + 1][a] = true;
            used[a + 1][(a + 2) % 16] = true;
        }
        for (int count = 3 * groups + 1; count <= n; count++) {
            int last = nibbles.isEmpty() ? 0 : nibbles.get(nibbles.size() - 1);
            int next = freshest(used, last);
            Check.due("a new pair for code " + count + " of " + n, used[last][next], false);
            used[last][next] = true;
            if (count % 109 == 1 && count > 1) {
                codes.add(16);
                used = new boolean[16][16];
            }
            nibbles.add(next);
            codes.add(next);
        }
        codes.add(17);
        int[] samples = new int[nibbles.size() / 2];
        for (int k = 0; k < samples.length; k++) {
            samples[k] = 16 * nibbles.get(2 * k) + nibbles.get(2 * k + 1);
        }
        int w = columnsFor(samples.length);
        int h = samples.length / w;
        Run run = Run.start().picture(w, h, 8, samples);
        Check.due(n + " codes", strip(run, 5, h, 1, 0), bytes(codes));
        run.page(5, h, 1).takes(n + " codes: load(0)", x -> x.load(0), 0).pictureAs(n + " codes, there and back", run);
    }

    /** The nibble, new behind the last one, that has the most new ones behind it. */
    private static int freshest(boolean[][] used, int last) {
        int found = 0;
        int most = -1;
        for (int next = 0; next < 16; next++) {
            int fresh = 0;
            for (boolean b : used[next]) {
                fresh += b ? 0 : 1;
            }
            if (!used[last][next] && fresh > most) {
                found = next;
                most = fresh;
            }
        }
        return found;
    }

    /** Each strip begins with CLEAR and an empty table, and with code number 1. */
    private static void stripsShareNoTable() {
        Run run = Run.start().picture(2, 3, 8, 0x77, 0x77, 0x77, 0x77, 0x12, 0x34);
        int[] sevens = Codes.bytes(16, 7, 18, 7, 17);
        Check.due("the first strip", strip(run, 5, 1, 1, 0), sevens);
        Check.due("the second strip", strip(run, 5, 1, 1, 1), sevens);
        Check.due("the third strip", strip(run, 5, 1, 1, 2), Codes.bytes(16, 1, 2, 3, 4, 17));
        Check.due("two rows in one strip", strip(run, 5, 2, 1, 0), Codes.bytes(16, 7, 18, 19, 18, 17));
        Run great = Run.start().washed(16, 16, 8);
        great.page(5, 8, 1).takes("load(0)", x -> x.load(0), 0).pictureAs("two strips that clear", great);
    }
}
