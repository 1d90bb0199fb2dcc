import java.util.Arrays;

/**
 * Grey pictures kept as the pages of one small file: a header, a chain of directories with fields,
 * and strips of packed samples, plain or compressed.
 *
 * <p>Every row of numbers is made once, with the object, and used again: no call makes anything new.
 */
public final class TaggedRaster {
    public static final int BAD_ARGUMENT = -1;
    public static final int UNSOUND = -2;
    public static final int FULL = -3;
    public static final int NO_PAGE = -4;
    public static final int BAD_FIELDS = -5;
    public static final int BAD_STRIP = -6;

    private static final int MOST_BYTES = 900;
    private static final int HEADER_BYTES = 8;
    private static final int HEADER_LINK = 4;
    private static final int ENTRY_BYTES = 12;
    private static final int MOST_PAGES = 8;
    private static final int MOST_SIDE = 16;
    private static final int MOST_LABELS = 2;
    private static final int MOST_CHARACTERS = 12;

    private static final int LEAST_FIRST = 73;
    private static final int GREATEST_FIRST = 77;
    private static final int FILE_MARK = 42;

    private static final int KIND_BYTE = 1;
    private static final int KIND_TEXT = 2;
    private static final int KIND_SHORT = 3;
    private static final int KIND_LONG = 4;

    private static final int TAG_COLUMNS = 256;
    private static final int TAG_ROWS = 257;
    private static final int TAG_DEPTH = 258;
    private static final int TAG_COMPRESSION = 259;
    private static final int TAG_PLACES = 273;
    private static final int TAG_ROWS_A_STRIP = 278;
    private static final int TAG_LENGTHS = 279;
    private static final int TAG_PREDICTOR = 317;
    private static final int OWN_ENTRIES = 8;

    private static final int PLAIN = 1;
    private static final int NIBBLE_CODES = 5;
    private static final int PACKETS = 32773;

    private static final int LEFT_AS_IT_IS = 1;
    private static final int LEFT_TAKEN_OFF = 2;

    private static final int CODE_CLEAR = 16;
    private static final int CODE_END = 17;
    private static final int FIRST_TABLE_CODE = 18;
    private static final int LAST_TABLE_CODE = 126;
    private static final int LAST_CODE_NUMBER = 109;

    private final Store file;
    private final Walk walk;
    private final Picture picture;
    private final Labels labels;
    private final Layout layout;
    private final Data data;
    private final NibbleEncoder encoder;
    private final NibbleDecoder decoder;
    private final Entry entry;
    private final Entry stripPlaces;
    private final Entry stripLengths;
    private final int[] writtenPlaces;
    private final int[] writtenLengths;
    private final int[] writtenTexts;

    public TaggedRaster() {
        file = new Store();
        walk = new Walk();
        picture = new Picture();
        labels = new Labels();
        layout = new Layout();
        data = new Data();
        encoder = new NibbleEncoder();
        decoder = new NibbleDecoder();
        entry = new Entry();
        stripPlaces = new Entry();
        stripLengths = new Entry();
        writtenPlaces = new int[MOST_SIDE];
        writtenLengths = new int[MOST_SIDE];
        writtenTexts = new int[MOST_LABELS];
        file.restart(false);
        picture.become(1, 1, 1);
    }

    public void clear(boolean greatest) {
        file.restart(greatest);
    }

    public int length() {
        return file.size;
    }

    public int byteAt(int place) {
        return file.holds(place, 1) ? file.bytes[place] : -1;
    }

    public boolean poke(int place, int b) {
        if (!file.holds(place, 1) || b < 0 || b > 255) {
            return false;
        }
        file.bytes[place] = b;
        return true;
    }

    public boolean begin(int w, int h, int d) {
        if (!isSide(w) || !isSide(h) || !isDepth(d)) {
            return false;
        }
        picture.become(w, h, d);
        return true;
    }

    public int shape() {
        return 1000000 * picture.depth + 1000 * picture.columns + picture.rows;
    }

    public boolean fill(int x, int y, int w, int h, int v) {
        if (!picture.has(x, y) || v < 0 || v > picture.greatest()) {
            return false;
        }
        // Taken off rather than added, so that no sum can run over.
        if (w < 1 || h < 1 || w > picture.columns - x || h > picture.rows - y) {
            return false;
        }
        for (int row = y; row < y + h; row++) {
            for (int column = x; column < x + w; column++) {
                picture.put(column, row, v);
            }
        }
        return true;
    }

    public void wash(int a, int b, int c) {
        for (int y = 0; y < picture.rows; y++) {
            for (int x = 0; x < picture.columns; x++) {
                // What wraps around is a multiple of 2^32, which the remainder by 2^d does not see.
                picture.put(x, y, picture.get(x, y) + a * x + b * y + c);
            }
        }
    }

    public int sample(int x, int y) {
        return picture.has(x, y) ? picture.get(x, y) : -1;
    }

    public boolean label(int tag, int c) {
        if (tag < 32768 || tag > 65535 || c < 1 || c > 127) {
            return false;
        }
        return labels.add(tag, c);
    }

    public int unlabel() {
        int taken = labels.count;
        labels.count = 0;
        return taken;
    }

    public int write(int compression, int rowsAStrip, int predictor) {
        if (!isCompression(compression) || !isPredictor(predictor)) {
            return BAD_ARGUMENT;
        }
        if (rowsAStrip < 1 || rowsAStrip > picture.rows) {
            return BAD_ARGUMENT;
        }
        walk.follow(file);
        if (!walk.ended) {
            return UNSOUND;
        }
        if (walk.met == MOST_PAGES) {
            return FULL;
        }
        layout.become(picture.columns, picture.rows, picture.depth);
        layout.choose(compression, rowsAStrip, predictor);
        file.startAppending();
        int directory = appendPage();
        if (file.end > MOST_BYTES) {
            return FULL;
        }
        file.putLong(walk.link, directory);
        return file.keepAppended();
    }

    public int pages() {
        walk.follow(file);
        return walk.met;
    }

    public boolean sound() {
        walk.follow(file);
        return walk.ended;
    }

    public int load(int page) {
        walk.follow(file);
        if (!walk.hasPage(page)) {
            return NO_PAGE;
        }
        if (!readLayout(walk.places[page])) {
            return BAD_FIELDS;
        }
        for (int strip = 0; strip < layout.strips(); strip++) {
            if (!decodeStrip(strip)) {
                return BAD_STRIP - strip;
            }
        }
        picture.become(layout.columns, layout.rows, layout.depth);
        data.unpack(layout, picture);
        return 0;
    }

    public long field(int page, int tag, int k) {
        if (!findSoundEntry(page, tag) || k < 0 || k >= entry.count) {
            return -1;
        }
        return entry.value(file, k);
    }

    public long fieldCount(int page, int tag) {
        return findSoundEntry(page, tag) ? entry.count : -1;
    }

    private static boolean isSide(long n) {
        return n >= 1 && n <= MOST_SIDE;
    }

    private static boolean isDepth(long n) {
        return n == 1 || n == 2 || n == 4 || n == 8;
    }

    private static boolean isCompression(long n) {
        return n == PLAIN || n == NIBBLE_CODES || n == PACKETS;
    }

    private static boolean isPredictor(long n) {
        return n == LEFT_AS_IT_IS || n == LEFT_TAKEN_OFF;
    }

    private static int codeWidth(int codeNumber) {
        if (codeNumber <= 13) {
            return 5;
        }
        return codeNumber <= 45 ? 6 : 7;
    }

    private int appendPage() {
        data.pack(picture, layout);
        appendStrips();
        int placesAt = appendStripNumbers(writtenPlaces);
        int lengthsAt = appendStripNumbers(writtenLengths);
        appendLongTexts();
        return appendDirectory(placesAt, lengthsAt);
    }

    private void appendStrips() {
        for (int strip = 0; strip < layout.strips(); strip++) {
            int from = layout.firstByte(strip);
            int to = layout.firstByte(strip + 1);
            file.appendToEven();
            writtenPlaces[strip] = file.end;
            if (layout.compression == PLAIN) {
                data.appendPlain(from, to, file);
            } else if (layout.compression == PACKETS) {
                appendRowsAsPackets(layout.firstRow(strip), layout.firstRow(strip + 1));
            } else {
                encoder.encode(data, from, to, file);
            }
            writtenLengths[strip] = file.end - writtenPlaces[strip];
        }
    }

    private void appendRowsAsPackets(int firstRow, int rowBehind) {
        int width = layout.bytesARow();
        for (int row = firstRow; row < rowBehind; row++) {
            Packets.encodeRow(data.bytes, row * width, row * width + width, file);
        }
    }

    /** Answers what stands in the four bytes of the entry: the only number, or the place of all. */
    private int appendStripNumbers(int[] numbers) {
        int strips = layout.strips();
        if (strips == 1) {
            return numbers[0];
        }
        file.appendToEven();
        int place = file.end;
        for (int strip = 0; strip < strips; strip++) {
            file.appendLong(numbers[strip]);
        }
        return place;
    }

    private void appendLongTexts() {
        for (int k = 0; k < labels.count; k++) {
            int label = labels.inOrder(k);
            if (labels.bytesOf(label) > 4) {
                file.appendToEven();
                writtenTexts[label] = file.end;
                labels.appendText(label, labels.bytesOf(label), file);
            }
        }
    }

    private int appendDirectory(int placesAt, int lengthsAt) {
        file.appendToEven();
        int directory = file.end;
        file.appendShort(OWN_ENTRIES + labels.count);
        appendShortEntry(TAG_COLUMNS, layout.columns);
        appendShortEntry(TAG_ROWS, layout.rows);
        appendShortEntry(TAG_DEPTH, layout.depth);
        appendShortEntry(TAG_COMPRESSION, layout.compression);
        appendStripsEntry(TAG_PLACES, placesAt);
        appendShortEntry(TAG_ROWS_A_STRIP, layout.rowsAStrip);
        appendStripsEntry(TAG_LENGTHS, lengthsAt);
        appendShortEntry(TAG_PREDICTOR, layout.predictor);
        for (int k = 0; k < labels.count; k++) {
            appendTextEntry(labels.inOrder(k));
        }
        file.appendLong(0);
        return directory;
    }

    private void appendShortEntry(int tag, int value) {
        file.appendShort(tag);
        file.appendShort(KIND_SHORT);
        file.appendLong(1);
        file.appendShort(value);
        file.appendShort(0);
    }

    private void appendStripsEntry(int tag, int fourBytes) {
        file.appendShort(tag);
        file.appendShort(KIND_LONG);
        file.appendLong(layout.strips());
        file.appendLong(fourBytes);
    }

    private void appendTextEntry(int label) {
        int size = labels.bytesOf(label);
        file.appendShort(labels.tags[label]);
        file.appendShort(KIND_TEXT);
        file.appendLong(size);
        if (size > 4) {
            file.appendLong(writtenTexts[label]);
        } else {
            labels.appendText(label, 4, file);
        }
    }

    private boolean findSoundEntry(int page, int tag) {
        walk.follow(file);
        return walk.hasPage(page) && entry.find(file, walk.places[page], tag) && !entry.broken;
    }

    private boolean readLayout(int directory) {
        if (!tagsGoUp(directory)) {
            return false;
        }
        long columns = onlyNumber(directory, TAG_COLUMNS);
        long rows = onlyNumber(directory, TAG_ROWS);
        long depth = onlyNumber(directory, TAG_DEPTH);
        if (!isSide(columns) || !isSide(rows) || !isDepth(depth)) {
            return false;
        }
        long compression = onlyNumber(directory, TAG_COMPRESSION);
        long rowsAStrip = Math.min(rows, onlyNumber(directory, TAG_ROWS_A_STRIP));
        long predictor = LEFT_AS_IT_IS;
        if (entry.find(file, directory, TAG_PREDICTOR)) {
            predictor = onlyNumber(directory, TAG_PREDICTOR);
        }
        if (!isCompression(compression) || rowsAStrip < 1 || !isPredictor(predictor)) {
            return false;
        }
        layout.become((int) columns, (int) rows, (int) depth);
        layout.choose((int) compression, (int) rowsAStrip, (int) predictor);
        return findStripNumbers(stripPlaces, directory, TAG_PLACES)
                && findStripNumbers(stripLengths, directory, TAG_LENGTHS);
    }

    private boolean tagsGoUp(int directory) {
        int entries = file.shortAt(directory);
        int before = -1;
        for (int k = 0; k < entries; k++) {
            int tag = file.shortAt(directory + 2 + ENTRY_BYTES * k);
            if (tag <= before) {
                return false;
            }
            before = tag;
        }
        return true;
    }

    /** -1, which no field may hold, when the field is missing or not one single SHORT or LONG. */
    private long onlyNumber(int directory, int tag) {
        if (!entry.find(file, directory, tag) || !entry.isNumbers(1)) {
            return -1;
        }
        return entry.value(file, 0);
    }

    private boolean findStripNumbers(Entry found, int directory, int tag) {
        return found.find(file, directory, tag) && found.isNumbers(layout.strips());
    }

    private boolean decodeStrip(int strip) {
        long place = stripPlaces.value(file, strip);
        long size = stripLengths.value(file, strip);
        if (!file.holds(place, size)) {
            return false;
        }
        int start = (int) place;
        int stop = (int) (place + size);
        int from = layout.firstByte(strip);
        int to = layout.firstByte(strip + 1);
        if (layout.compression == PLAIN) {
            return data.takePlain(file, start, stop, from, to);
        }
        if (layout.compression == PACKETS) {
            return Packets.decode(file, start, stop, data.bytes, from, to);
        }
        return decoder.decode(file, start, stop, data, from, to);
    }

    /** The bytes of the file. */
    private static final class Store {
        final int[] bytes = new int[MOST_BYTES];
        int size;
        /** May run past the room: what is appended is counted to its end before it is refused. */
        int end;

        void restart(boolean greatest) {
            int mark = greatest ? GREATEST_FIRST : LEAST_FIRST;
            end = 0;
            append(mark);
            append(mark);
            appendShort(FILE_MARK);
            appendLong(0);
            size = end;
        }

        boolean holds(long place, long count) {
            return place >= 0 && count >= 0 && place + count <= size;
        }

        boolean hasHeader() {
            boolean marked = bytes[0] == LEAST_FIRST || bytes[0] == GREATEST_FIRST;
            return marked && bytes[0] == bytes[1] && shortAt(2) == FILE_MARK;
        }

        int shortAt(int place) {
            if (place < 0 || place > size - 2) {
                return 0;
            }
            if (bytes[0] == GREATEST_FIRST) {
                return bytes[place] * 256 + bytes[place + 1];
            }
            return bytes[place + 1] * 256 + bytes[place];
        }

        long longAt(int place) {
            int first = shortAt(place);
            int second = shortAt(place + 2);
            if (bytes[0] == GREATEST_FIRST) {
                return first * 65536L + second;
            }
            return second * 65536L + first;
        }

        void putLong(int place, int value) {
            if (!holds(place, 4)) {
                return;
            }
            for (int k = 0; k < 4; k++) {
                bytes[place + k] = byteOfLong(value, k);
            }
        }

        void startAppending() {
            end = size;
        }

        int keepAppended() {
            int grown = end - size;
            size = end;
            return grown;
        }

        void append(int b) {
            if (end < MOST_BYTES) {
                bytes[end] = b;
            }
            end++;
        }

        void appendToEven() {
            if (end % 2 != 0) {
                append(0);
            }
        }

        void appendShort(int value) {
            boolean greatest = bytes[0] == GREATEST_FIRST;
            append((greatest ? value >> 8 : value) & 255);
            append((greatest ? value : value >> 8) & 255);
        }

        void appendLong(int value) {
            for (int k = 0; k < 4; k++) {
                append(byteOfLong(value, k));
            }
        }

        private int byteOfLong(int value, int k) {
            int shift = bytes[0] == GREATEST_FIRST ? 24 - 8 * k : 8 * k;
            return (value >> shift) & 255;
        }
    }

    /** The way along the chain of directories. */
    private static final class Walk {
        final int[] places = new int[MOST_PAGES];
        int met;
        boolean ended;
        /** The place of the LONG that was read last. */
        int link;

        void follow(Store file) {
            met = 0;
            ended = false;
            link = HEADER_LINK;
            if (!file.hasHeader()) {
                return;
            }
            for (int step = 0; step <= MOST_PAGES; step++) {
                long next = file.longAt(link);
                if (next == 0) {
                    ended = true;
                    return;
                }
                if (met == MOST_PAGES || !stands(file, next) || wasMet(next)) {
                    return;
                }
                places[met] = (int) next;
                link = (int) next + 2 + ENTRY_BYTES * file.shortAt((int) next);
                met++;
            }
        }

        boolean hasPage(int page) {
            return page >= 0 && page < met;
        }

        private static boolean stands(Store file, long place) {
            if (place % 2 != 0 || place < HEADER_BYTES || !file.holds(place, 2)) {
                return false;
            }
            int entries = file.shortAt((int) place);
            return entries >= 1 && file.holds(place, 6 + ENTRY_BYTES * entries);
        }

        private boolean wasMet(long place) {
            for (int k = 0; k < met; k++) {
                if (places[k] == place) {
                    return true;
                }
            }
            return false;
        }
    }

    /** One entry of a directory, as it was last found. */
    private static final class Entry {
        int kind;
        long count;
        long place;
        boolean broken;

        boolean find(Store file, int directory, int tag) {
            int entries = file.shortAt(directory);
            for (int k = 0; k < entries; k++) {
                int at = directory + 2 + ENTRY_BYTES * k;
                if (file.shortAt(at) == tag) {
                    read(file, at);
                    return true;
                }
            }
            return false;
        }

        private void read(Store file, int at) {
            kind = file.shortAt(at + 2);
            count = file.longAt(at + 4);
            long size = count * valueBytes();
            place = size <= 4 ? at + 8 : file.longAt(at + 8);
            broken = size == 0 || !file.holds(place, size);
        }

        /** 0 for a kind that there is not, so that such an entry has no bytes at all. */
        private int valueBytes() {
            if (kind == KIND_BYTE || kind == KIND_TEXT) {
                return 1;
            }
            if (kind == KIND_SHORT) {
                return 2;
            }
            return kind == KIND_LONG ? 4 : 0;
        }

        boolean isNumbers(int due) {
            return !broken && count == due && (kind == KIND_SHORT || kind == KIND_LONG);
        }

        /** Only for an entry that is not broken, and k below its count. */
        long value(Store file, int k) {
            int at = (int) place + k * valueBytes();
            if (kind == KIND_LONG) {
                return file.longAt(at);
            }
            if (kind == KIND_SHORT) {
                return file.shortAt(at);
            }
            return file.holds(at, 1) ? file.bytes[at] : -1;
        }
    }

    /** The samples beside the file. */
    private static final class Picture {
        final int[] samples = new int[MOST_SIDE * MOST_SIDE];
        int columns;
        int rows;
        int depth;

        void become(int w, int h, int d) {
            columns = w;
            rows = h;
            depth = d;
            Arrays.fill(samples, 0);
        }

        int greatest() {
            return (1 << depth) - 1;
        }

        boolean has(int x, int y) {
            return x >= 0 && x < columns && y >= 0 && y < rows;
        }

        int get(int x, int y) {
            return has(x, y) ? samples[y * MOST_SIDE + x] : 0;
        }

        void put(int x, int y, int value) {
            if (has(x, y)) {
                samples[y * MOST_SIDE + x] = value & greatest();
            }
        }
    }

    /** The texts beside the file, in the order in which they were begun. */
    private static final class Labels {
        final int[] tags = new int[MOST_LABELS];
        final int[] sizes = new int[MOST_LABELS];
        final int[] characters = new int[MOST_LABELS * MOST_CHARACTERS];
        int count;

        boolean add(int tag, int c) {
            int label = indexOf(tag);
            if (label == MOST_LABELS) {
                return false;
            }
            if (label == count) {
                tags[label] = tag;
                sizes[label] = 0;
                count++;
            }
            if (sizes[label] == MOST_CHARACTERS) {
                return false;
            }
            characters[label * MOST_CHARACTERS + sizes[label]] = c;
            sizes[label]++;
            return true;
        }

        private int indexOf(int tag) {
            for (int k = 0; k < count; k++) {
                if (tags[k] == tag) {
                    return k;
                }
            }
            return count;
        }

        /** The label that comes k-th when the lower tag comes first. */
        int inOrder(int k) {
            boolean swapped = count == MOST_LABELS && tags[1] < tags[0];
            return swapped ? 1 - k : k;
        }

        int bytesOf(int label) {
            return sizes[label] + 1;
        }

        /** The characters, with bytes 0 behind them up to a width. */
        void appendText(int label, int width, Store file) {
            for (int k = 0; k < width; k++) {
                boolean within = k < sizes[label];
                file.append(within ? characters[label * MOST_CHARACTERS + k] : 0);
            }
        }
    }

    /** How the picture of a page is laid out in strips. */
    private static final class Layout {
        int columns = 1;
        int rows = 1;
        int depth = 1;
        int compression = PLAIN;
        int rowsAStrip = 1;
        int predictor = LEFT_AS_IT_IS;

        void become(int w, int h, int d) {
            columns = w;
            rows = h;
            depth = d;
        }

        void choose(int ofCompression, int ofRows, int ofPredictor) {
            compression = ofCompression;
            rowsAStrip = Math.max(1, ofRows);
            predictor = ofPredictor;
        }

        int bytesARow() {
            return (columns * depth + 7) / 8;
        }

        int strips() {
            return (rows + rowsAStrip - 1) / rowsAStrip;
        }

        /** For the strip behind the last one, the row behind the last one. */
        int firstRow(int strip) {
            return Math.min(rows, strip * rowsAStrip);
        }

        /** Where a strip begins in the data of all rows; for the strip behind the last one, their end. */
        int firstByte(int strip) {
            return firstRow(strip) * bytesARow();
        }
    }

    /** The DATA of all strips, one behind the other. */
    private static final class Data {
        final int[] bytes = new int[MOST_SIDE * MOST_SIDE];

        void pack(Picture picture, Layout layout) {
            Arrays.fill(bytes, 0);
            for (int y = 0; y < layout.rows; y++) {
                for (int x = 0; x < layout.columns; x++) {
                    int value = picture.get(x, y);
                    if (layout.predictor == LEFT_TAKEN_OFF && x > 0) {
                        value = (value - picture.get(x - 1, y)) & picture.greatest();
                    }
                    int bit = x * layout.depth;
                    int at = y * layout.bytesARow() + bit / 8;
                    bytes[at] |= value << (8 - layout.depth - bit % 8);
                }
            }
        }

        void unpack(Layout layout, Picture picture) {
            for (int y = 0; y < layout.rows; y++) {
                for (int x = 0; x < layout.columns; x++) {
                    int bit = x * layout.depth;
                    int at = y * layout.bytesARow() + bit / 8;
                    int value = bytes[at] >> (8 - layout.depth - bit % 8);
                    if (layout.predictor == LEFT_TAKEN_OFF && x > 0) {
                        value += picture.get(x - 1, y);
                    }
                    picture.put(x, y, value);
                }
            }
        }

        void appendPlain(int from, int to, Store file) {
            for (int at = from; at < to; at++) {
                file.append(bytes[at]);
            }
        }

        boolean takePlain(Store file, int start, int stop, int from, int to) {
            if (stop - start != to - from) {
                return false;
            }
            for (int k = 0; k < to - from; k++) {
                bytes[from + k] = file.bytes[start + k];
            }
            return true;
        }

        int nibble(int at) {
            int b = bytes[at / 2];
            return at % 2 == 0 ? b >> 4 : b & 15;
        }

        void putNibble(int at, int value) {
            int b = bytes[at / 2];
            bytes[at / 2] = at % 2 == 0 ? (value << 4) | (b & 15) : (b & 240) | value;
        }
    }

    /** Compression 32773. */
    private static final class Packets {
        static void encodeRow(int[] row, int from, int to, Store file) {
            int at = from;
            // A packet takes a byte of the row or more: there are no more packets than bytes.
            for (int packets = 0; packets < to - from && at < to; packets++) {
                if (threeEqualBegin(row, at, to)) {
                    int n = equalBytes(row, at, to);
                    file.append(257 - n);
                    file.append(row[at]);
                    at += n;
                } else {
                    int n = bytesUpToThreeEqual(row, at, to);
                    file.append(n - 1);
                    for (int k = 0; k < n; k++) {
                        file.append(row[at + k]);
                    }
                    at += n;
                }
            }
        }

        private static boolean threeEqualBegin(int[] row, int at, int to) {
            return at + 2 < to && row[at] == row[at + 1] && row[at] == row[at + 2];
        }

        private static int equalBytes(int[] row, int at, int to) {
            int n = 1;
            while (at + n < to && row[at + n] == row[at]) {
                n++;
            }
            return n;
        }

        private static int bytesUpToThreeEqual(int[] row, int at, int to) {
            int n = 1;
            while (at + n < to && !threeEqualBegin(row, at + n, to)) {
                n++;
            }
            return n;
        }

        static boolean decode(Store file, int start, int stop, int[] row, int from, int to) {
            int next = start;
            int at = from;
            while (next < stop) {
                int c = file.bytes[next];
                next++;
                if (c == 128) {
                    continue;
                }
                boolean repeated = c > 128;
                int given = repeated ? 257 - c : c + 1;
                int taken = repeated ? 1 : given;
                // Too many bytes already fail, for nothing that follows can take them back.
                if (taken > stop - next || given > to - at) {
                    return false;
                }
                for (int k = 0; k < given; k++) {
                    row[at + k] = file.bytes[repeated ? next : next + k];
                }
                next += taken;
                at += given;
            }
            return at == to;
        }
    }

    /** Compression 5, towards the file. The table is a tree: a row's children are one nibble longer. */
    private static final class NibbleEncoder {
        final int[] firstChild = new int[LAST_TABLE_CODE + 1];
        final int[] nextSibling = new int[LAST_TABLE_CODE + 1];
        final int[] lastNibble = new int[LAST_TABLE_CODE + 1];
        int codeNumber;
        int pending;
        int pendingBits;

        void encode(Data data, int from, int to, Store file) {
            int stop = 2 * to;
            int at = 2 * from;
            pending = 0;
            pendingBits = 0;
            codeNumber = 0;
            restartTable(file);
            while (at < stop) {
                int code = data.nibble(at);
                at++;
                int longer = at < stop ? child(code, data.nibble(at)) : 0;
                while (longer != 0 && at < stop) {
                    code = longer;
                    at++;
                    longer = at < stop ? child(code, data.nibble(at)) : 0;
                }
                emit(code, file);
                codeNumber++;
                if (at < stop && codeNumber == LAST_CODE_NUMBER) {
                    restartTable(file);
                } else if (at < stop) {
                    addRow(code, data.nibble(at));
                }
            }
            emit(CODE_END, file);
            if (pendingBits > 0) {
                file.append((pending << (8 - pendingBits)) & 255);
            }
        }

        private void restartTable(Store file) {
            emit(CODE_CLEAR, file);
            // Rows of the table lose their children when their code is given anew.
            for (int nibble = 0; nibble < 16; nibble++) {
                firstChild[nibble] = 0;
            }
            codeNumber = 0;
        }

        /** Code number 1 is followed by the table's first code, number 2 by its second, and so on. */
        private void addRow(int code, int nibble) {
            int added = CODE_END + codeNumber;
            lastNibble[added] = nibble;
            firstChild[added] = 0;
            nextSibling[added] = firstChild[code];
            firstChild[code] = added;
        }

        /** The code of a row with one nibble more behind it, 0 when it is not in the table. */
        private int child(int code, int nibble) {
            int at = firstChild[code];
            for (int k = 0; k < 16 && at != 0; k++) {
                if (lastNibble[at] == nibble) {
                    return at;
                }
                at = nextSibling[at];
            }
            return 0;
        }

        private void emit(int code, Store file) {
            int width = codeWidth(codeNumber + 1);
            pending = (pending << width) | code;
            pendingBits += width;
            if (pendingBits >= 8) {
                pendingBits -= 8;
                file.append((pending >> pendingBits) & 255);
                pending &= (1 << pendingBits) - 1;
            }
        }
    }

    /**
     * Compression 5, from the file. The row of code 17 + j is what code number j gave and the nibble
     * that came behind it, so the table only tells where in the data each code's row began.
     */
    private static final class NibbleDecoder {
        final int[] starts = new int[LAST_CODE_NUMBER + 1];
        final int[] sizes = new int[LAST_CODE_NUMBER + 1];
        int codeNumber;

        boolean decode(Store file, int start, int stop, Data data, int from, int to) {
            int at = 2 * from;
            int bit = 8 * start;
            int width = codeWidth(1);
            codeNumber = 0;
            // A code takes a bit or more: there are no more codes than bits.
            for (int codes = 0; codes < 8 * (stop - start) && bit + width <= 8 * stop; codes++) {
                int code = readBits(file, bit, width);
                bit += width;
                if (code == CODE_END) {
                    return at == 2 * to;
                }
                if (code == CODE_CLEAR) {
                    codeNumber = 0;
                } else {
                    int size = rowSize(code);
                    // Too many nibbles already fail, for nothing that follows can take them back.
                    if (size == 0 || size > 2 * to - at) {
                        return false;
                    }
                    copyRow(data, code, at, size);
                    noteCode(at, size);
                    at += size;
                }
                width = codeWidth(codeNumber + 1);
            }
            return false;
        }

        private static int readBits(Store file, int bit, int width) {
            int value = 0;
            for (int k = bit; k < bit + width; k++) {
                value = value * 2 + ((file.bytes[k / 8] >> (7 - k % 8)) & 1);
            }
            return value;
        }

        /** 0 when the code has no row. */
        private int rowSize(int code) {
            if (code < 16) {
                return 1;
            }
            boolean inTable = code >= FIRST_TABLE_CODE && code <= LAST_TABLE_CODE;
            int giver = code - CODE_END;
            return inTable && giver <= codeNumber ? sizes[giver] + 1 : 0;
        }

        /** From the front on: a code that is just being made ends with the nibble that it begins with. */
        private void copyRow(Data data, int code, int at, int size) {
            if (code < 16) {
                data.putNibble(at, code);
                return;
            }
            int source = starts[code - CODE_END];
            for (int k = 0; k < size; k++) {
                data.putNibble(at + k, data.nibble(source + k));
            }
        }

        private void noteCode(int at, int size) {
            codeNumber++;
            if (codeNumber <= LAST_CODE_NUMBER) {
                starts[codeNumber] = at;
                sizes[codeNumber] = size;
            }
        }
    }
}
