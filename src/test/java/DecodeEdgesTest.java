import java.util.ArrayList;
import java.util.Arrays;
import java.util.List;

/** The edges of DECODING, as load meets them: each method stands for the sentence above it. */
public final class DecodeEdgesTest {
    private static final int BAD_STRIP = TaggedRaster.BAD_STRIP;

    public static void main(String[] args) {
        plainLengths();
        everyFirstByteOfAPacket();
        packetsCutOff();
        packetsThatGiveNothing();
        packetsWithoutRegardToRows();
        packetsBehindAFullStrip();
        firstCode();
        everyCodeNumber();
        clearAtEveryNumber();
        bitsThatAreNotThere();
        whateverFollowsEnd();
        noEnd();
        numberOfNibbles();
        rowsThatGrow();
        codesOfEachWidth();
        leftOverBits();
        leftOverBitsAreCounted();
        Check.end();
    }

    private static int columnsFor(int size) {
        for (int w = 16; w >= 1; w--) {
            if (size % w == 0 && size / w <= 16) {
                return w;
            }
        }
        return 0;
    }

    /** A page of so many bytes in one strip, depth 8. */
    private static Forge page(int size, int compression, int... bytes) {
        int w = columnsFor(size);
        Check.due("a shape for " + size + " bytes", w > 0, true);
        return new Forge(size % 3 == 0).shape(w, size / w, 8, compression).strip(bytes);
    }

    private static void shows(String what, int compression, int[] data, int... bytes) {
        int w = columnsFor(data.length);
        page(data.length, compression, bytes).shows(what, 8000000 + 1000 * w + data.length / w, data);
    }

    private static void refuses(String what, int compression, int size, int... bytes) {
        page(size, compression, bytes).refuses(what, BAD_STRIP);
    }

    private static int[] ints(List<Integer> list) {
        return list.stream().mapToInt(Integer::intValue).toArray();
    }

    /** "it fails always when it would not give exactly as many bytes as the strip's rows take. 1: the bytes are the DATA." */
    private static void plainLengths() {
        for (int size : new int[] {1, 2, 3, 16, 240, 256}) {
            int[] data = new int[size];
            for (int k = 0; k < size; k++) {
                data[k] = 255 - k;
            }
            shows(size + " bytes", 1, data, data);
            refuses("a byte fewer than " + size, 1, size, Arrays.copyOf(data, size - 1));
            int[] longer = Arrays.copyOf(data, Math.min(256, size + 1));
            page(size, 1, longer).numberLong(Forge.LENGTHS, size + 1).refuses("a byte more than " + size, BAD_STRIP);
            page(size, 1, data).numberLong(Forge.LENGTHS, 0).refuses("no byte", BAD_STRIP);
            page(size, 1, data).numberLong(Forge.LENGTHS, 2 * size).refuses("twice as many", BAD_STRIP);
        }
    }

    /** Bytes 7, as packets, until there are so many in all. */
    private static void fillUp(List<Integer> bytes, int missing) {
        int rest = missing;
        while (rest > 0) {
            int n = Math.min(128, rest);
            bytes.add(n == 1 ? 0 : 257 - n);
            bytes.add(7);
            rest -= n;
        }
    }

    /** "up to 127, c + 1 bytes follow as they are; 129 or more, one byte follows and counts 257 - c times; 128, nothing". */
    private static void everyFirstByteOfAPacket() {
        for (int c = 0; c <= 255; c++) {
            int given = c <= 127 ? c + 1 : c == 128 ? 0 : 257 - c;
            List<Integer> bytes = new ArrayList<>(List.of(c));
            int[] data = new int[256];
            Arrays.fill(data, 7);
            for (int k = 0; k < given; k++) {
                data[k] = c <= 127 ? (100 + 3 * k) % 256 : 99;
                if (c <= 127 || k == 0) {
                    bytes.add(data[k]);
                }
            }
            int packet = bytes.size();
            fillUp(bytes, 256 - given);
            shows("a packet " + c, 32773, data, ints(bytes));
            List<Integer> fewer = new ArrayList<>(bytes.subList(0, packet));
            fillUp(fewer, 255 - given);
            refuses("a packet " + c + ", one too few in all", 32773, 256, ints(fewer));
            List<Integer> more = new ArrayList<>(bytes.subList(0, packet));
            fillUp(more, 257 - given);
            refuses("a packet " + c + ", one too many in all", 32773, 256, ints(more));
            if (given > 0 && columnsFor(given) > 0) {
                shows("a packet " + c + " alone", 32773, Arrays.copyOf(data, given), ints(bytes.subList(0, packet)));
            }
        }
    }

    /** "It fails when a packet is cut off by the end of the bytes", though the file goes on behind them. */
    private static void packetsCutOff() {
        for (int c : new int[] {0, 1, 2, 3, 15, 127}) {
            int[] bytes = new int[c + 2];
            Arrays.fill(bytes, 5);
            bytes[0] = c;
            int[] data = new int[c + 1];
            Arrays.fill(data, 5);
            shows("a whole packet " + c, 32773, data, bytes);
            page(c + 1, 32773, bytes).numberLong(Forge.LENGTHS, c + 1).refuses("packet " + c + " without its last byte", BAD_STRIP);
            page(c + 1, 32773, bytes).numberLong(Forge.LENGTHS, 1).refuses("packet " + c + " without any", BAD_STRIP);
            if (c > 0 && columnsFor(c) > 0) {
                page(c, 32773, bytes).numberLong(Forge.LENGTHS, c + 1).refuses("nor are its first bytes taken", BAD_STRIP);
            }
        }
        for (int c : new int[] {129, 130, 242, 254, 255}) {
            int n = 257 - c;
            if (columnsFor(n) > 0) {
                int[] data = new int[n];
                Arrays.fill(data, 5);
                shows("a whole packet " + c, 32773, data, c, 5);
                page(n, 32773, c, 5).numberLong(Forge.LENGTHS, 1).refuses("packet " + c + " without its byte", BAD_STRIP);
            }
        }
        page(1, 32773, 0, 9, 0).refuses("a full strip and a packet 0 cut off", BAD_STRIP);
        page(1, 32773, 0, 9, 255).refuses("a full strip and a packet 255 cut off", BAD_STRIP);
        page(1, 32773, 0, 9, 127).refuses("a full strip and a packet 127 cut off", BAD_STRIP);
    }

    /** "128, nothing follows". */
    private static void packetsThatGiveNothing() {
        int[] data = {1, 2};
        shows("128 in front", 32773, data, 128, 1, 1, 2);
        shows("128 between", 32773, data, 0, 1, 128, 0, 2);
        shows("128 at the end", 32773, data, 1, 1, 2, 128);
        shows("128 everywhere", 32773, data, 128, 128, 0, 1, 128, 128, 0, 2, 128, 128, 128);
        shows("128 within a packet is a byte", 32773, new int[] {128, 128}, 1, 128, 128);
        shows("128 is a byte that counts", 32773, new int[] {128, 128, 128}, 254, 128);
        refuses("128 alone", 32773, 1, 128);
        refuses("no bytes at all", 32773, 1);
        page(1, 32773, 128).numberLong(Forge.LENGTHS, 0).refuses("no bytes at all", BAD_STRIP);
        int[] many = new int[200];
        Arrays.fill(many, 128);
        many[198] = 0;
        many[199] = 44;
        shows("198 times 128", 32773, new int[] {44}, many);
    }

    /** "packets without regard to rows". */
    private static void packetsWithoutRegardToRows() {
        int[] six = {6, 6, 6, 6, 6, 6, 6, 6, 6};
        shows("a run over three rows", 32773, six, 248, 6);
        shows("a packet over three rows", 32773, six, 8, 6, 6, 6, 6, 6, 6, 6, 6, 6);
        shows("two runs that part a row", 32773, six, 253, 6, 252, 6);
        refuses("a run too short", 32773, 9, 249, 6);
        refuses("a run too long", 32773, 9, 247, 6);
        new Forge(true).shape(3, 3, 8, 32773).strip(253, 1, 252, 2).shows("three columns", 8003003, 1, 1, 1, 1, 2, 2, 2, 2, 2);
    }

    /** A strip that is full takes no byte more. */
    private static void packetsBehindAFullStrip() {
        refuses("one byte more", 32773, 4, 3, 1, 2, 3, 4, 0, 5);
        refuses("two bytes more", 32773, 4, 3, 1, 2, 3, 4, 255, 5);
        refuses("a packet over the end", 32773, 4, 1, 1, 2, 2, 3, 4, 5);
        refuses("a run over the end", 32773, 4, 1, 1, 2, 254, 3);
        shows("a run up to the end", 32773, new int[] {1, 2, 3, 3}, 1, 1, 2, 255, 3);
        shows("a packet up to the end", 32773, new int[] {1, 2, 3, 4}, 1, 1, 2, 1, 3, 4);
    }

    /** "at first the table is empty and the next code is number 1, as after CLEAR". */
    private static void firstCode() {
        int[] data = {0x12};
        shows("CLEAR first", 5, data, Codes.bytes(16, 1, 2, 17));
        shows("no CLEAR", 5, data, Codes.bytes(1, 2, 17));
        shows("CLEAR twice", 5, data, Codes.bytes(16, 16, 1, 2, 17));
        shows("CLEAR last", 5, data, Codes.bytes(1, 2, 16, 17));
        shows("CLEAR between", 5, data, Codes.bytes(1, 16, 2, 17));
        for (int code = 18; code <= 31; code++) {
            for (int pad = 0; pad < 3; pad++) {
                int[] codes = {code, 1, 2, 17};
                int[] cut = pad == 2 ? codes : new int[] {code, 1 + pad, 17};
                refuses("code " + code + " first", 5, 1, Codes.bytes(cut));
                int[] cleared = new int[cut.length + 1];
                cleared[0] = 16;
                System.arraycopy(cut, 0, cleared, 1, cut.length);
                refuses("code " + code + " behind CLEAR", 5, 1, Codes.bytes(cleared));
            }
        }
    }

    /** Single codes, then one code, then single codes until a picture has as many nibbles. */
    private static void oneCode(List<Integer> singles, int code, List<Integer> row) {
        String what = "code " + code + " is number " + (singles.size() + 1);
        if (row != null) {
            List<Integer> codes = new ArrayList<>(singles);
            List<Integer> nibbles = new ArrayList<>(singles);
            codes.add(code);
            nibbles.addAll(row);
            padded(what, codes, nibbles, true);
            return;
        }
        for (int taken = 0; taken <= 2; taken++) {
            List<Integer> codes = new ArrayList<>(singles);
            codes.add(code);
            List<Integer> nibbles = new ArrayList<>(singles);
            for (int k = 0; k < taken; k++) {
                nibbles.add(0);
            }
            padded(what, codes, nibbles, false);
        }
    }

    private static void padded(String what, List<Integer> codes, List<Integer> nibbles, boolean good) {
        while (nibbles.isEmpty() || nibbles.size() % 2 == 1 || columnsFor(nibbles.size() / 2) == 0) {
            int nibble = nibbles.size() % 16;
            nibbles.add(nibble);
            codes.add(nibble);
        }
        codes.add(17);
        int[] data = new int[nibbles.size() / 2];
        for (int k = 0; k < data.length; k++) {
            data[k] = nibbles.get(2 * k) * 16 + nibbles.get(2 * k + 1);
        }
        if (good) {
            shows(what, 5, data, Codes.bytes(ints(codes)));
        } else {
            refuses(what, 5, data.length, Codes.bytes(ints(codes)));
        }
    }

    /**
     * "code 16 + j gets the row of code number j - 1 with the first nibble of code number j's own row behind it; code
     * number j may be that very code"; "Any other code 18 or more that is not in the table fails".
     */
    private static void everyCodeNumber() {
        List<Integer> singles = new ArrayList<>();
        for (int j = 1; j <= 125; j++) {
            int most = (1 << Codes.width(j)) - 1;
            int last = j == 1 ? 17 : Math.min(16 + j, 126);
            int[] tried = {18, 15 + j, 16 + j, 17 + j, 18 + j, 29, 30, 31, 61, 62, 63, 125, 126, 127};
            for (int code : tried) {
                if (code <= most && code >= 18) {
                    int giver = code - 17;
                    List<Integer> row = null;
                    if (code <= last) {
                        int first = singles.get(giver - 1);
                        row = List.of(first, giver == j - 1 ? first : singles.get(giver));
                    }
                    oneCode(singles, code, row);
                }
            }
            singles.add(j * 7 % 16);
        }
    }

    /** "CLEAR and END take as many [bits] as a code in their place would", and CLEAR empties the table. */
    private static void clearAtEveryNumber() {
        for (int before = 0; before <= 125; before++) {
            List<Integer> codes = new ArrayList<>();
            List<Integer> nibbles = new ArrayList<>();
            for (int k = 1; k <= before; k++) {
                codes.add(k * 7 % 16);
                nibbles.add(k * 7 % 16);
            }
            codes.add(16);
            List<Integer> bad = new ArrayList<>(codes);
            bad.add(18);
            padded("CLEAR is number " + (before + 1) + ", then 18", bad, new ArrayList<>(nibbles), false);
            bad = new ArrayList<>(codes);
            bad.add(18);
            List<Integer> two = new ArrayList<>(nibbles);
            two.addAll(List.of(7, 14));
            padded("CLEAR is number " + (before + 1) + ", then the old 18", bad, two, false);
            codes.addAll(List.of(9, 18, 18));
            nibbles.addAll(List.of(9, 9, 9, 9, 9));
            padded("CLEAR is number " + (before + 1), codes, nibbles, true);
        }
    }

    /** "so does a code whose bits are not all there": every strip that is cut short fails. */
    private static void bitsThatAreNotThere() {
        int[][] strips = {{16, 1, 2, 17}, {16, 1, 2, 3, 4, 5, 6, 17}, {1, 2, 17}, {16, 1, 2, 18, 20, 2, 17},
            {16, 1, 2, 3, 4, 5, 6, 7, 8, 9, 10, 11, 12, 13, 14, 15, 0, 17}};
        int[][] dues = {{0x12}, {0x12, 0x34, 0x56}, {0x12}, {0x12, 0x12, 0x12, 0x12}, {0x12, 0x34, 0x56, 0x78, 0x9a, 0xbc, 0xde, 0xf0}};
        for (int k = 0; k < strips.length; k++) {
            int[] bytes = Codes.bytes(strips[k]);
            shows("all the bits", 5, dues[k], bytes);
            for (int length = 0; length < bytes.length; length++) {
                page(dues[k].length, 5, bytes).numberLong(Forge.LENGTHS, length).refuses(length + " bytes of " + bytes.length, BAD_STRIP);
            }
        }
    }

    /** "At END reading stops, whatever follows". */
    private static void whateverFollowsEnd() {
        int[] bytes = Codes.bytes(16, 1, 2, 17);
        for (int b : new int[] {0, 1, 15}) {
            int[] other = bytes.clone();
            other[2] |= b;
            shows("bits behind END", 5, new int[] {0x12}, other);
            int[] longer = Arrays.copyOf(other, 10);
            Arrays.fill(longer, 3, 10, 255);
            shows("bytes behind END", 5, new int[] {0x12}, longer);
        }
        shows("codes behind END", 5, new int[] {0x12}, Codes.bytes(16, 1, 2, 17, 3, 4, 17));
        shows("CLEAR behind END", 5, new int[] {0x12}, Codes.bytes(16, 1, 2, 17, 16, 3, 4, 17));
        shows("END behind END", 5, new int[] {0x12}, Codes.bytes(16, 1, 2, 17, 17, 17));
        refuses("nibbles behind END do not count", 5, 2, Codes.bytes(16, 1, 2, 17, 3, 4, 17));
        refuses("END before all", 5, 1, Codes.bytes(17, 16, 1, 2, 17));
        int[] great = new int[256];
        Arrays.fill(great, 255);
        System.arraycopy(bytes, 0, great, 0, 3);
        great[2] |= 15;
        shows("253 bytes behind END", 5, new int[] {0x12}, great);
    }

    /** "it fails when END does not come". */
    private static void noEnd() {
        refuses("no END behind all nibbles", 5, 1, Codes.bytes(16, 1, 2));
        refuses("CLEAR at the end", 5, 1, Codes.bytes(16, 1, 2, 16));
        refuses("a byte that is full", 5, 3, Codes.bytes(16, 16, 1, 2, 3, 4, 5, 6));
        shows("END behind a byte that is full", 5, new int[] {0x12, 0x34, 0x56}, Codes.bytes(16, 16, 1, 2, 3, 4, 5, 6, 17));
        refuses("only CLEARs", 5, 1, Codes.bytes(16, 16, 16, 16, 16, 16, 16, 16));
        refuses("no bytes", 5, 1);
        page(1, 5, Codes.bytes(1, 2, 17)).numberLong(Forge.LENGTHS, 1).refuses("one byte", BAD_STRIP);
        int[] clears = new int[202];
        Arrays.fill(clears, 16);
        clears[199] = 1;
        clears[200] = 2;
        clears[201] = 17;
        shows("199 times CLEAR", 5, new int[] {0x12}, Codes.bytes(clears));
    }

    /** "or when the nibbles up to it are not exactly twice as many as the bytes that the strip's rows take". */
    private static void numberOfNibbles() {
        for (int size : new int[] {1, 2, 3, 16, 54, 55, 56, 60, 112, 128}) {
            for (int more = -2; more <= 2; more++) {
                int[] codes = new int[2 * size + more + 1];
                int[] data = new int[size];
                for (int k = 0; k < 2 * size; k++) {
                    data[k / 2] += k * 5 % 16 * (k % 2 == 0 ? 16 : 1);
                }
                for (int k = 0; k < codes.length - 1; k++) {
                    codes[k] = k * 5 % 16;
                }
                codes[codes.length - 1] = 17;
                if (more == 0) {
                    shows(2 * size + " nibbles", 5, data, Codes.bytes(codes));
                } else {
                    refuses(codes.length - 1 + " nibbles for " + size + " bytes", 5, size, Codes.bytes(codes));
                }
            }
        }
        refuses("a row of two where one nibble is missing", 5, 2, Codes.bytes(1, 1, 1, 18, 17));
        shows("a row of two where two are missing", 5, new int[] {0x11, 0x11}, Codes.bytes(1, 1, 18, 17));
        refuses("a row of two where none is missing", 5, 1, Codes.bytes(1, 1, 18, 17));
    }

    /** Rows that each code makes longer by one, up to the greatest picture and far beyond it. */
    private static void rowsThatGrow() {
        for (int n = 1; n <= 100; n++) {
            int[] codes = new int[n + 1];
            codes[0] = 5;
            for (int k = 1; k < n; k++) {
                codes[k] = 17 + k;
            }
            codes[n] = 17;
            int nibbles = n * (n + 1) / 2;
            if (nibbles % 2 == 0 && nibbles <= 512 && columnsFor(nibbles / 2) > 0) {
                int[] data = new int[nibbles / 2];
                Arrays.fill(data, 0x55);
                shows(nibbles + " nibbles by " + n + " codes", 5, data, Codes.bytes(codes));
            } else {
                refuses(nibbles + " nibbles by " + n + " codes", 5, 256, Codes.bytes(codes));
            }
        }
        int[] codes = new int[33];
        for (int k = 1; k < 31; k++) {
            codes[k] = 17 + k;
        }
        codes[31] = 17 + 15;
        codes[32] = 17;
        shows("512 nibbles", 5, new int[256], Codes.bytes(codes));
        codes[31] = 17 + 14;
        refuses("511 nibbles", 5, 256, Codes.bytes(codes));
        codes[31] = 17 + 16;
        refuses("513 nibbles", 5, 256, Codes.bytes(codes));
    }

    /** "Code number 1 to 13 takes 5 bits, 14 to 45 takes 6, later ones 7": nothing but END's place tells them apart. */
    private static void codesOfEachWidth() {
        StringBuilder bits = new StringBuilder();
        List<Integer> nibbles = new ArrayList<>();
        for (int number = 1; number <= 128; number++) {
            int nibble = number * 11 % 16;
            String width = number <= 13 ? "0" : number <= 45 ? "00" : "000";
            bits.append(width).append(Integer.toBinaryString(16 + nibble).substring(1));
            nibbles.add(nibble);
            int next = number + 1;
            String end = (next <= 13 ? "" : next <= 45 ? "0" : "00") + "10001";
            if (number % 2 == 0 && columnsFor(number / 2) > 0) {
                int[] data = new int[number / 2];
                for (int k = 0; k < data.length; k++) {
                    data[k] = nibbles.get(2 * k) * 16 + nibbles.get(2 * k + 1);
                }
                shows(number + " codes, bit by bit", 5, data, packed(bits + end));
            }
        }
    }

    private static int[] packed(String bits) {
        String full = bits + "0".repeat((8 - bits.length() % 8) % 8);
        int[] bytes = new int[full.length() / 8];
        for (int k = 0; k < bytes.length; k++) {
            bytes[k] = Integer.parseInt(full.substring(8 * k, 8 * k + 8), 2);
        }
        return bytes;
    }

    /** "Bits left over behind a row's samples are not looked at." */
    private static void leftOverBits() {
        int[][] shapes = {{5, 1, 7}, {1, 1, 127}, {7, 1, 1}, {3, 2, 3}, {1, 2, 63}, {1, 4, 15}, {3, 4, 15}, {9, 1, 127}, {5, 2, 63}};
        for (int[] shape : shapes) {
            int w = shape[0];
            int d = shape[1];
            int rowBytes = (w * d + 7) / 8;
            for (int compression : new int[] {1, 5, 32773}) {
                for (int left : new int[] {0, 1, shape[2]}) {
                    int[] data = new int[2 * rowBytes];
                    data[rowBytes - 1] = 255 - shape[2] + left;
                    data[2 * rowBytes - 1] = left;
                    int[] samples = new int[2 * w];
                    int inLast = (w * d - 8 * (rowBytes - 1)) / d;
                    Arrays.fill(samples, w - inLast, w, (1 << d) - 1);
                    new Forge(d == 2).shape(w, 2, d, compression).strip(stored(data, compression))
                            .shows("left over " + left, 1000000 * d + 1000 * w + 2, samples);
                }
            }
        }
    }

    /** They are bytes of the DATA all the same: without them the strip is too short. */
    private static void leftOverBitsAreCounted() {
        for (int compression : new int[] {1, 5, 32773}) {
            new Forge(true).shape(9, 2, 1, compression).strip(stored(new int[] {0, 0, 0}, compression))
                    .refuses("three bytes for two rows of two", BAD_STRIP);
            new Forge(true).shape(9, 2, 1, compression).strip(stored(new int[] {0, 0, 0, 0}, compression))
                    .shows("four bytes for two rows of two", 1009002, new int[18]);
            new Forge(true).shape(9, 2, 1, compression).strip(stored(new int[] {0, 0, 0, 0, 0}, compression))
                    .refuses("five bytes for two rows of two", BAD_STRIP);
        }
    }

    private static int[] stored(int[] data, int compression) {
        if (compression == 1) {
            return data;
        }
        List<Integer> bytes = new ArrayList<>();
        for (int b : data) {
            bytes.addAll(compression == 5 ? List.of(b / 16, b % 16) : List.of(0, b));
        }
        if (compression == 32773) {
            return ints(bytes);
        }
        bytes.add(17);
        return Codes.bytes(ints(bytes));
    }
}
