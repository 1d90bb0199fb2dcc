/**
 * A file with one page whose bytes a test can set at will: a strip area of 256 bytes at place 8 and
 * a directory of eight entries at place 264. Pages are loaded into new objects each time, for nothing
 * is promised of an object behind its 512th call.
 */
final class Forge {
    static final int STRIP = 8;
    static final int DIRECTORY = 264;
    static final int LENGTH = 366;
    static final int COLUMNS = 0;
    static final int ROWS = 1;
    static final int DEPTH = 2;
    static final int COMPRESSION = 3;
    static final int PLACES = 4;
    static final int ROWS_A_STRIP = 5;
    static final int LENGTHS = 6;
    static final int PREDICTOR = 7;

    final TaggedRaster x;
    private final boolean greatest;
    private final int[] written;
    private final int[] wanted;

    Forge(boolean greatest) {
        this.greatest = greatest;
        x = page(greatest);
        written = Check.file(page(greatest));
        wanted = written.clone();
    }

    private static TaggedRaster page(boolean greatest) {
        TaggedRaster x = new TaggedRaster();
        write(x, greatest);
        return x;
    }

    private static void write(TaggedRaster x, boolean greatest) {
        x.clear(greatest);
        Check.due("begin(16, 16, 8)", x.begin(16, 16, 8), true);
        Check.due("write(1, 16, 1)", x.write(1, 16, 1), LENGTH - 8);
    }

    /** The file as it is now, with a small picture and a label beside it. */
    Run run() {
        int[] now = wanted.clone();
        return Run.start().then(x -> make(x, now)).picture(2, 2, 4, 9, 8, 7, 15).text(40000, "a");
    }

    private void make(TaggedRaster x, int[] bytes) {
        write(x, greatest);
        for (int place = 0; place < LENGTH; place++) {
            if (bytes[place] != written[place]) {
                Check.due("poke(" + place + ", " + bytes[place] + ")", x.poke(place, bytes[place]), true);
            }
        }
    }

    /** The page shows w columns, h rows and depth d, in one strip, by some compression. */
    Forge shape(int w, int h, int d, int compression) {
        return number(COLUMNS, w).number(ROWS, h).number(DEPTH, d).number(COMPRESSION, compression)
                .number(ROWS_A_STRIP, h);
    }

    /** The strip's bytes, and their number. */
    Forge strip(int... bytes) {
        for (int k = 0; k < bytes.length; k++) {
            poke(STRIP + k, bytes[k]);
        }
        return numberLong(LENGTHS, bytes.length);
    }

    static int entry(int k) {
        return DIRECTORY + 2 + 12 * k;
    }

    /** A whole entry with one SHORT. */
    Forge shortEntry(int k, int tag, int value) {
        return tag(k, tag).kind(k, 3).count(k, 1).numberLong(k, 0).number(k, value);
    }

    Forge tag(int k, int tag) {
        return putShort(entry(k), tag);
    }

    Forge kind(int k, int kind) {
        return putShort(entry(k) + 2, kind);
    }

    Forge count(int k, long count) {
        return putLong(entry(k) + 4, count);
    }

    Forge number(int k, int value) {
        return putShort(entry(k) + 8, value);
    }

    Forge numberLong(int k, long value) {
        return putLong(entry(k) + 8, value);
    }

    Forge putShort(int place, int value) {
        poke(place, (greatest ? value >> 8 : value) & 255);
        poke(place + 1, (greatest ? value : value >> 8) & 255);
        return this;
    }

    Forge putLong(int place, long value) {
        for (int k = 0; k < 4; k++) {
            poke(place + k, (int) (value >> (greatest ? 24 - 8 * k : 8 * k)) & 255);
        }
        return this;
    }

    Forge poke(int place, int b) {
        Check.due("poke(" + place + ", " + b + ")", x.poke(place, b), true);
        wanted[place] = b;
        return this;
    }

    /** The page is read, the picture is the one due, and neither file nor labels change. */
    void shows(String what, int shape, int... samples) {
        Run after = run().takes(what + ": load(0)", x -> x.load(0), 0);
        Check.due(what + ": shape()", after.object().shape(), shape);
        Check.due(what + ": samples", after.samples(), samples);
        Check.due(what + ": the file stays", after.file(), wanted);
        after.labelsAs(what, run());
    }

    /** The page is refused, and neither picture nor file nor labels change. */
    void refuses(String what, int answer) {
        run().refuses(what + ": load(0)", x -> x.load(0), answer);
    }
}
