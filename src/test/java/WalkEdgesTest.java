/** The edges of DIRECTORY and WALK, and of promises 14 and 15: each method stands for the sentence above it. */
public final class WalkEdgesTest {
    private static final int LENGTH = Forge.LENGTH;

    public static void main(String[] args) {
        withoutHeader();
        noDirectory();
        for (int order = 0; order < 2; order++) {
            evenPlaces(order == 1);
            atLeastEight(order == 1);
            atLeastOneEntry(order == 1);
            anyNumberOfEntries(order == 1);
            upToTheLastByte(order == 1);
            placesFarOutside(order == 1);
            upToTheLastOfNineHundred(order == 1);
            chains(order == 1);
            behindEight(order == 1);
            metAlready(order == 1);
            brokenOffBehind(order == 1);
            directoriesMayOverlap(order == 1);
        }
        Check.end();
    }

    /** Promises 14 and 15 answer as due, and change nothing; the pages met, and no others, are there. */
    private static void is(String what, Run run, int pages, boolean sound) {
        run.refuses(what + ": pages()", TaggedRaster::pages, pages);
        run.refuses(what + ": sound()", x -> x.sound() ? 1 : 0, sound ? 1 : 0);
        TaggedRaster x = run.object();
        Check.due(what + ": the page behind the last", x.load(pages), TaggedRaster.NO_PAGE);
        Check.due(what + ": its fields", x.fieldCount(pages, 256), -1);
        if (pages > 0) {
            Check.due(what + ": the last page is there", x.load(pages - 1) == TaggedRaster.NO_PAGE, false);
        }
    }

    private static void is(String what, Forge f, int pages, boolean sound) {
        is(what, f.run(), pages, sound);
    }

    /** A directory of one entry at a place, and the LONG behind it. */
    private static Forge directory(Forge f, int place, long next) {
        return f.putShort(place, 1).putShort(place + 2, 256).putShort(place + 4, 3).putLong(place + 6, 1).putLong(place + 14, next);
    }

    /** "Without a HEADER no directory is met and the file is not SOUND." */
    private static void withoutHeader() {
        for (int order = 0; order < 2; order++) {
            for (int place = 0; place < 4; place++) {
                int right = Run.start().clear(order == 1).object().byteAt(place);
                for (int b : new int[] {right - 1, right + 1, 255}) {
                    if (b >= 0) {
                        is("byte " + place + " is " + b, Run.two(order == 1).poke(place, b), 0, false);
                        is("byte " + place + " is " + b, Run.start().clear(order == 1).poke(place, b), 0, false);
                    }
                }
            }
            is("one page, and a header", Run.two(order == 1).poke(2, order == 1 ? 0 : 42), 2, true);
        }
    }

    /** "so with no directory at all, if the HEADER's LONG is 0". */
    private static void noDirectory() {
        is("a new file", Run.start(), 0, true);
        is("a cleared file", Run.two(true).clear(true), 0, true);
        is("pages that nothing leads to", Run.two(false).poke(4, 0, 0, 0, 0), 0, true);
        is("pages that nothing leads to", Run.full(true).poke(4, 0, 0, 0, 0), 0, true);
    }

    /** "It STANDS at o when o is even". */
    private static void evenPlaces(boolean greatest) {
        for (int place = 8; place <= 14; place++) {
            boolean even = place % 2 == 0;
            Forge f = directory(new Forge(greatest).putLong(4, place), place, 0);
            is("a directory at " + place, f, even ? 1 : 0, even);
            f = directory(new Forge(greatest), place, 0).putLong(Forge.entry(8), place);
            is("a second directory at " + place, f, even ? 2 : 1, even);
        }
    }

    /** "and at least 8": what stands before would have entries enough, and a 0 behind them. */
    private static void atLeastEight(boolean greatest) {
        for (int place : new int[] {1, 2, 3, 4, 5, 6, 7}) {
            is("the header's LONG is " + place, new Forge(greatest).putLong(4, place), 0, false);
            Forge f = new Forge(greatest).putLong(Forge.entry(8), place);
            is("a directory's LONG is " + place, f, 1, false);
            f = directory(new Forge(greatest).putLong(4, 8), 8, place);
            is("a LONG at 22 is " + place, f, 1, false);
        }
        int[] two = greatest ? new int[] {0, 0, 0, 2} : new int[] {2, 0, 0, 0};
        is("42 entries at 2", Run.two(greatest).poke(4, two), 0, false);
        is("a directory at 8", directory(new Forge(greatest).putLong(4, 8), 8, 0), 1, true);
    }

    /** "n is at least 1". */
    private static void atLeastOneEntry(boolean greatest) {
        is("one entry", directory(new Forge(greatest).putLong(4, 20), 20, 0), 1, true);
        is("no entry", directory(new Forge(greatest).putLong(4, 20), 20, 0).putShort(20, 0), 0, false);
        is("no entry of the page that was written", new Forge(greatest).putShort(Forge.DIRECTORY, 0), 0, false);
        is("one entry of it", new Forge(greatest).putShort(Forge.DIRECTORY, 1).putLong(Forge.entry(1), 0), 1, true);
    }

    /** "and all of it (6 + 12 n bytes) lies in the file", for every n. */
    private static void anyNumberOfEntries(boolean greatest) {
        Run file = Run.start().clear(greatest).then(x -> {
            x.begin(16, 16, 8);
            x.write(1, 16, 1);
        });
        int due = (LENGTH - Forge.DIRECTORY - 6) / 12;
        TaggedRaster x = file.object();
        int calls = 0;
        for (int n = 0; n <= 65535; n++) {
            if (calls > 450) {
                x = file.object();
                calls = 0;
            }
            x.poke(Forge.DIRECTORY, greatest ? n / 256 : n % 256);
            x.poke(Forge.DIRECTORY + 1, greatest ? n % 256 : n / 256);
            calls += 3;
            Check.due(n + " entries: pages()", x.pages(), n >= 1 && n <= due ? 1 : 0);
        }
    }

    /** "and all of it lies in the file", at the file's end. */
    private static void upToTheLastByte(boolean greatest) {
        for (int n = 1; n <= 8; n++) {
            int last = LENGTH - 6 - 12 * n;
            Forge f = new Forge(greatest).putLong(4, last).putShort(last, n).putLong(LENGTH - 4, 0);
            is(n + " entries up to the last byte", f, 1, true);
            f = new Forge(greatest).putLong(4, last).putShort(last, n + 1).putLong(LENGTH - 4, 0);
            is("an entry more", f, 0, false);
            f = new Forge(greatest).putLong(4, last + 2).putShort(last + 2, n);
            is("two bytes later", f, 0, false);
            f = directory(new Forge(greatest).putLong(4, 8), 8, last + 2).putShort(last + 2, n);
            is("two bytes later, the second directory", f, 1, false);
        }
        is("nothing but a number", new Forge(greatest).putLong(4, LENGTH - 2).putShort(LENGTH - 2, 1), 0, false);
        is("a number and a part of an entry", new Forge(greatest).putLong(4, LENGTH - 6).putShort(LENGTH - 6, 1), 0, false);
    }

    /** Places behind the file, of which some would wrap around to one where a directory stands. */
    private static void placesFarOutside(boolean greatest) {
        for (long place : new long[] {LENGTH, LENGTH + 2, 898, 900, 902, 65536 + Forge.DIRECTORY, (1L << 24) + Forge.DIRECTORY,
            0x7ffffffeL, 0x80000000L, 0x80000000L + Forge.DIRECTORY, 0xfffffff0L, 0xfffffffeL, 0xffffffffL}) {
            is("the header's LONG is " + place, new Forge(greatest).putLong(4, place), 0, false);
            is("a directory's LONG is " + place, new Forge(greatest).putLong(Forge.entry(8), place), 1, false);
        }
    }

    /** The same in a file of 900 bytes. */
    private static void upToTheLastOfNineHundred(boolean greatest) {
        Run full = Run.full(greatest);
        is("three pages", full, 3, true);
        int directory = 900 - 6 - 12 * 9;
        is("the last directory has an entry more", full.poke(directory, greatest ? new int[] {0, 10} : new int[] {10, 0}), 2, false);
        is("the last directory has none", full.poke(directory, 0, 0), 2, false);
        for (int place : new int[] {directory + 2, 898, 900}) {
            int[] bytes = greatest ? new int[] {0, 0, place / 256, place % 256} : new int[] {place % 256, place / 256, 0, 0};
            is("the header's LONG is " + place, full.poke(4, bytes), 0, false);
        }
    }

    private static Forge chain(boolean greatest, int n, long last) {
        Forge f = new Forge(greatest).putLong(4, n == 0 ? last : 8);
        for (int k = 0; k < n; k++) {
            directory(f, 8 + 18 * k, k == n - 1 ? last : 8 + 18 * (k + 1));
        }
        return f;
    }

    /** "When it comes to 0 it ends, and the file is SOUND"; "to another place while eight were met ... breaks off". */
    private static void chains(boolean greatest) {
        for (int n = 0; n <= 8; n++) {
            is(n + " directories", chain(greatest, n, 0), n, true);
        }
        is("nine directories", chain(greatest, 9, 0), 8, false);
        is("ten directories", chain(greatest, 10, 0), 8, false);
        is("twelve directories", chain(greatest, 12, 0), 8, false);
    }

    /** Behind eight any place but 0 breaks the walk off. */
    private static void behindEight(boolean greatest) {
        int ninth = 8 + 18 * 8;
        for (long place : new long[] {1, 2, 7, 8, 26, 8 + 18 * 7, ninth, ninth + 2, Forge.DIRECTORY, LENGTH, 0x80000000L, 0xffffffffL}) {
            is("eight and " + place, chain(greatest, 8, place), 8, false);
        }
        is("eight and 0", chain(greatest, 8, 0), 8, true);
        is("seven and another one", chain(greatest, 7, Forge.DIRECTORY), 8, true);
    }

    /** "or where one was met on this walk already". */
    private static void metAlready(boolean greatest) {
        for (int n = 1; n <= 8; n++) {
            for (int back = 0; back < n; back++) {
                is(n + " directories, the last leads to " + back, chain(greatest, n, 8 + 18 * back), n, false);
            }
        }
        Run ring = chain(greatest, 3, 8).run();
        TaggedRaster x = ring.object();
        for (int k = 0; k < 3; k++) {
            Check.due("a walk forgets the one before", x.pages(), 3);
        }
        Check.due("a page of a ring is there", x.fieldCount(2, 256), 1);
    }

    /** "PAGE k is the k-th directory met (also when the walk breaks off behind it)". */
    private static void brokenOffBehind(boolean greatest) {
        for (int n = 1; n <= 8; n++) {
            Forge f = chain(greatest, n, 9);
            for (int k = 0; k < n; k++) {
                f.putShort(8 + 18 * k + 10, 100 + k);
            }
            is(n + " directories and a break", f, n, false);
            for (int k = 0; k < n; k++) {
                Check.due("a field of page " + k, f.run().object().field(k, 256, 0), 100 + k);
            }
            Check.due("none of the page behind", f.run().object().field(n, 256, 0), -1);
        }
        Run broken = new Forge(greatest).putLong(Forge.entry(8), 3).run();
        broken.takes("load of a page before the break", x -> x.load(0), 0);
        broken.refuses("write behind a break", x -> x.write(1, 1, 1), TaggedRaster.UNSOUND);
    }

    /** Nothing keeps directories from sharing bytes. */
    private static void directoriesMayOverlap(boolean greatest) {
        Forge f = new Forge(greatest).putLong(4, 40).putShort(40, 2).putLong(40 + 26, 48).putShort(48, 1).putLong(48 + 14, 0);
        is("a directory within another", f, 2, true);
        f.putLong(48 + 14, 40);
        is("and back", f, 2, false);
    }
}
