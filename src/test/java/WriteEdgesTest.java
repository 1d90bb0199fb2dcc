import java.util.Arrays;

/** The edges of promise 13, write: each method stands for the sentence above it. */
public final class WriteEdgesTest {
    private static final int LEAST = Integer.MIN_VALUE;
    private static final int MOST = Integer.MAX_VALUE;
    private static final int BAD_ARGUMENT = TaggedRaster.BAD_ARGUMENT;
    private static final int UNSOUND = TaggedRaster.UNSOUND;
    private static final int FULL = TaggedRaster.FULL;

    public static void main(String[] args) {
        compressions();
        predictors();
        rowsAStrip();
        badArgumentBeforeAll();
        unsoundFiles();
        unsoundBeforeFull();
        eightPages();
        eightWrittenPages();
        nineHundredBytes();
        nineHundredBytesOfAnyPage();
        nineHundredBytesByCompression();
        afterARefusedPage();
        allPartsInTheirOrder();
        evenPlaces();
        oneStripOrTwo();
        textsOfFourBytesOrFive();
        lowerTagFirst();
        bytesThatHoldNoValue();
        linkOfTheHeader();
        linkOfTheLastDirectory();
        onlyTheFile();
        Check.end();
    }

    private static void refused(Run before, int due, int... n) {
        before.refuses("write" + Arrays.toString(n), x -> x.write(n[0], n[1], n[2]), due);
    }

    private static Run busy(boolean greatest) {
        return Run.start().clear(greatest).washed(4, 3, 2).text(40000, "abcdef").page(5, 2, 2).text(50000, "x").washed(7, 5, 4);
    }

    /** "BAD_ARGUMENT when the compression ... is none of these" (1, 5 or 32773). */
    private static void compressions() {
        for (Run before : new Run[] {Run.start(), busy(true), Run.full(false)}) {
            for (int compression : new int[] {0, 2, 3, 4, 6, 7, 32772, 32774, 32768, 65535, 65536 + 1, 65536 + 5, 65536 + 32773,
                32773 - 65536, 256 + 1, 256 + 5, -1, -5, -32773, LEAST, LEAST + 1, LEAST + 5, MOST}) {
                refused(before, BAD_ARGUMENT, compression, 1, 1);
            }
        }
        for (int compression : new int[] {1, 5, 32773}) {
            Run page = busy(false).page(compression, 5, 2);
            Check.due("the compression's field", page.object().field(1, 259, 0), compression);
        }
    }

    /** "or the predictor is none of these" (1 or 2). */
    private static void predictors() {
        for (Run before : new Run[] {Run.start(), busy(true), Run.full(false)}) {
            for (int predictor : new int[] {0, 3, 4, -1, -2, 256 + 1, 65536 + 1, 65536 + 2, LEAST, LEAST + 1, LEAST + 2, MOST}) {
                refused(before, BAD_ARGUMENT, 1, 1, predictor);
                refused(before, BAD_ARGUMENT, 5, 1, predictor);
                refused(before, BAD_ARGUMENT, 32773, 1, predictor);
            }
        }
        for (int predictor : new int[] {1, 2}) {
            Run page = busy(true).page(1, 5, predictor);
            Check.due("the predictor's field", page.object().field(1, 317, 0), predictor);
        }
    }

    /** "or rowsAStrip is not 1 .. h". */
    private static void rowsAStrip() {
        for (int h : new int[] {1, 2, 7, 15, 16}) {
            Run before = Run.start().clear(true).text(40000, "abcde").washed(3, h, 4);
            for (int rows : new int[] {0, -1, h + 1, h + 2, 17, 256 + 1, 65536 + 1, LEAST, LEAST + 1, MOST}) {
                refused(before, BAD_ARGUMENT, 1, rows, 1);
                refused(before, BAD_ARGUMENT, 5, rows, 2);
                refused(before, BAD_ARGUMENT, 32773, rows, 1);
            }
            for (int rows : new int[] {1, h}) {
                Run page = before.page(32773, rows, 1);
                Check.due("the rows' field", page.object().field(0, 278, 0), rows);
                Check.due("as many strips", page.object().fieldCount(0, 273), h / rows);
            }
        }
    }

    /** "BAD_ARGUMENT when ...; otherwise UNSOUND ...; otherwise FULL": the first answer comes first. */
    private static void badArgumentBeforeAll() {
        Run[] befores = {busy(true).poke(3, 43), Run.full(false).poke(0, 74), Run.full(true), Run.two(false).washed(16, 16, 8)};
        for (Run before : befores) {
            refused(before, BAD_ARGUMENT, 2, 1, 1);
            refused(before, BAD_ARGUMENT, 1, 0, 1);
            refused(before, BAD_ARGUMENT, 1, 17, 1);
            refused(before, BAD_ARGUMENT, 1, 1, 3);
            refused(before, BAD_ARGUMENT, 0, 0, 0);
        }
    }

    /** "otherwise UNSOUND when the file is not SOUND". */
    private static void unsoundFiles() {
        for (int order = 0; order < 2; order++) {
            boolean greatest = order == 1;
            for (int place = 0; place < 4; place++) {
                int right = busy(greatest).object().byteAt(place);
                refused(busy(greatest).poke(place, right + 1), UNSOUND, 1, 1, 1);
                busy(greatest).poke(place, right).page(1, 1, 1);
            }
            long[] places = {1, 2, 4, 6, 7, 9, 263, 265, Forge.LENGTH - 2, Forge.LENGTH, 0x80000000L, 0xfffffffeL, 0xffffffffL};
            for (long place : places) {
                refused(new Forge(greatest).putLong(4, place).run(), UNSOUND, 1, 1, 1);
                refused(new Forge(greatest).putLong(Forge.entry(8), place).run(), UNSOUND, 5, 2, 2);
            }
            refused(new Forge(greatest).putLong(Forge.entry(8), Forge.DIRECTORY).run(), UNSOUND, 32773, 2, 1);
            refused(new Forge(greatest).putShort(Forge.DIRECTORY, 0).run(), UNSOUND, 1, 1, 1);
            refused(new Forge(greatest).putShort(Forge.DIRECTORY, 9).run(), UNSOUND, 1, 1, 1);
            new Forge(greatest).run().takes("a sound file", x -> x.write(1, 2, 1), 116);
        }
    }

    /** A file that is neither sound nor has room. */
    private static void unsoundBeforeFull() {
        refused(Run.full(true).poke(3, 0), UNSOUND, 1, 1, 1);
        refused(Run.full(false).poke(899, 1), UNSOUND, 1, 1, 1);
        refused(Run.two(false).washed(16, 16, 8).poke(723, 1), UNSOUND, 1, 16, 1);
        refused(chain(9, false), UNSOUND, 1, 1, 1);
        refused(chain(9, true), UNSOUND, 1, 1, 1);
    }

    /** Directories of one entry each, 18 bytes long, in a file of 366 bytes with much room. */
    private static Run chain(int n, boolean greatest) {
        Forge f = new Forge(greatest).putLong(4, 8);
        for (int k = 0; k < n; k++) {
            f.putShort(8 + 18 * k, 1).putLong(8 + 18 * k + 14, k == n - 1 ? 0 : 8 + 18 * (k + 1));
        }
        return f.run();
    }

    /** "otherwise FULL when eight pages are there", though there are bytes enough. */
    private static void eightPages() {
        for (int order = 0; order < 2; order++) {
            refused(chain(8, order == 1), FULL, 1, 1, 1);
            refused(chain(8, order == 1), FULL, 5, 2, 2);
            for (int n = 1; n <= 7; n++) {
                Run after = chain(n, order == 1).then(TaggedRaster::unlabel).takes("page " + n, x -> x.write(1, 2, 1), 104);
                Check.due("a page more than " + n, after.object().pages(), n + 1);
                Check.due("which is sound", after.object().sound(), true);
            }
        }
    }

    /** Eight of the smallest pages take 840 bytes; the ninth is refused. */
    private static void eightWrittenPages() {
        Run run = Run.start();
        for (int n = 0; n < 8; n++) {
            Check.due("pages()", run.object().pages(), n);
            run = run.takes("page " + n, x -> x.write(1, 1, 1), 104);
        }
        Check.due("eight pages", run.object().pages(), 8);
        Check.due("840 bytes", run.object().length(), 840);
        refused(run, FULL, 1, 1, 1);
        run.takes("the last page", x -> x.load(7), 0);
    }

    /** "or the file would have more than 900 bytes": 900 and 902, by strips, numbers of strips and labels. */
    private static void nineHundredBytes() {
        for (int order = 0; order < 2; order++) {
            Run two = Run.two(order == 1);
            Run labels = two.text(40000, "a").text(50000, "bcd");
            Run fits = labels.washed(7, 7, 8).takes("49 bytes and one to fill", x -> x.write(1, 7, 1), 176);
            Check.due("a full file", fits.object().length(), 900);
            labels.washed(10, 5, 8).takes("50 bytes", x -> x.write(1, 5, 1), 176);
            refused(labels.washed(13, 4, 8), FULL, 1, 4, 1);
            two.washed(7, 8, 8).takes("35 and 21 bytes, two to fill", x -> x.write(1, 5, 1), 176);
            refused(two.washed(15, 4, 8), FULL, 1, 2, 1);
            refused(two.washed(10, 6, 8), FULL, 1, 3, 1);
            two.washed(8, 7, 8).text(40000, "abcde").takes("a text of six", x -> x.write(1, 7, 1), 176);
            two.washed(8, 7, 8).text(40000, "abcd").takes("a text of five and one to fill", x -> x.write(1, 7, 1), 176);
            refused(two.washed(8, 7, 8).text(40000, "abcdef"), FULL, 1, 7, 1);
            refused(two.washed(16, 16, 8).text(40000, "abcdefghijkl"), FULL, 1, 1, 1);
        }
    }

    /** The same for plain pages of every shape: what they take is reckoned from their parts. */
    private static void nineHundredBytesOfAnyPage() {
        String[][] texts = {{"", ""}, {"abc", ""}, {"abcd", ""}, {"abcdefghijkl", "abcdefghijk"}};
        int[] met = new int[2];
        for (String[] pair : texts) {
            for (int w = 1; w <= 16; w++) {
                for (int h = 1; h <= 16; h++) {
                    for (int rows = 1; rows <= h; rows++) {
                        int bytes = pageBytes(w, h, rows, pair);
                        int columns = w;
                        int r = rows;
                        Run run = Run.two(false).text(40000, pair[0]).text(50000, pair[1]).picture(columns, h, 8);
                        run.takes("a page of " + bytes + " bytes", x -> x.write(1, r, 1), 724 + bytes > 900 ? FULL : bytes);
                        met[0] += 724 + bytes == 900 ? 1 : 0;
                        met[1] += 724 + bytes == 902 ? 1 : 0;
                    }
                }
            }
        }
        Check.due("some come to 900 bytes", met[0] > 0, true);
        Check.due("some come to 902 bytes", met[1] > 0, true);
    }

    private static int even(int n) {
        return n + n % 2;
    }

    private static int pageBytes(int w, int h, int rows, String... texts) {
        int bytes = 6 + 12 * 8;
        int strips = 0;
        for (int row = 0; row < h; row += rows) {
            bytes += even(w * Math.min(rows, h - row));
            strips++;
        }
        bytes += strips > 1 ? 8 * strips : 0;
        for (String text : texts) {
            bytes += text.isEmpty() ? 0 : 12;
            bytes += text.length() > 3 ? even(text.length() + 1) : 0;
        }
        return bytes;
    }

    /** The same for compressed pages: what they take they take in an empty file too. */
    private static void nineHundredBytesByCompression() {
        for (int compression : new int[] {5, 32773}) {
            int[] met = new int[2];
            for (int number = 0; number < 3000; number++) {
                int w = 1 + number % 16;
                int h = 1 + number / 16 % 16;
                int seed = number * 7919;
                int rows = 1 + number / 3 % h;
                Run picture = Run.start().then(x -> {
                    x.begin(w, h, 8);
                    x.wash(seed % 256, seed / 256 % 256, 1);
                    x.fill(0, 0, 1 + w / 3, 1 + h / 2, 5);
                });
                int bytes = picture.object().write(compression, rows, 1);
                Run run = Run.two(true).then(x -> {
                    x.begin(w, h, 8);
                    x.wash(seed % 256, seed / 256 % 256, 1);
                    x.fill(0, 0, 1 + w / 3, 1 + h / 2, 5);
                });
                int due = bytes > 176 ? FULL : bytes;
                run.takes(bytes + " bytes by " + compression, x -> x.write(compression, rows, 1), due);
                if (bytes == 178 && met[1] < 3) {
                    refused(run, FULL, compression, rows, 1);
                }
                met[0] += bytes == 176 ? 1 : 0;
                met[1] += bytes == 178 ? 1 : 0;
            }
            Check.due("some come to 900 bytes by " + compression, met[0] > 0, true);
            Check.due("some come to 902 bytes by " + compression, met[1] > 0, true);
        }
    }

    /** "These change nothing.": a page behind a refused one is the page that it would have been. */
    private static void afterARefusedPage() {
        for (int order = 0; order < 2; order++) {
            Run two = Run.two(order == 1).text(40000, "ab");
            for (int compression : new int[] {1, 5, 32773}) {
                Run tried = two.takes("a page too great", x -> x.write(1, 16, 1), FULL)
                        .takes("another", x -> x.write(compression, 1, 2), FULL)
                        .takes("a wrong one", x -> x.write(compression, 17, 2), BAD_ARGUMENT);
                Run late = tried.washed(5, 5, 4).page(compression, 2, 2);
                late.fileAs("a page behind refused ones", two.washed(5, 5, 4).page(compression, 2, 2));
                late.labelsAs("a page behind refused ones", two);
                late.takes("and it is read", x -> x.load(2), 0).pictureAs("and it is read", two.washed(5, 5, 4));
            }
        }
    }

    /** "Appended are, in this order": strips, places, lengths, labels, directory. */
    private static void allPartsInTheirOrder() {
        int[] least = {73, 73, 42, 0, 46, 0, 0, 0,
            1, 2, 3, 4, 5, 6,
            7, 8, 9, 0,
            8, 0, 0, 0, 14, 0, 0, 0,
            6, 0, 0, 0, 3, 0, 0, 0,
            'v', 'w', 'x', 'y', 'z', 0,
            'a', 'b', 'c', 'd', 0, 0,
            10, 0,
            0, 1, 3, 0, 1, 0, 0, 0, 3, 0, 0, 0,
            1, 1, 3, 0, 1, 0, 0, 0, 3, 0, 0, 0,
            2, 1, 3, 0, 1, 0, 0, 0, 8, 0, 0, 0,
            3, 1, 3, 0, 1, 0, 0, 0, 1, 0, 0, 0,
            17, 1, 4, 0, 2, 0, 0, 0, 18, 0, 0, 0,
            22, 1, 3, 0, 1, 0, 0, 0, 2, 0, 0, 0,
            23, 1, 4, 0, 2, 0, 0, 0, 26, 0, 0, 0,
            61, 1, 3, 0, 1, 0, 0, 0, 1, 0, 0, 0,
            64, 156, 2, 0, 6, 0, 0, 0, 34, 0, 0, 0,
            80, 195, 2, 0, 5, 0, 0, 0, 40, 0, 0, 0,
            0, 0, 0, 0};
        int[] greatest = {77, 77, 0, 42, 0, 0, 0, 46,
            1, 2, 3, 4, 5, 6,
            7, 8, 9, 0,
            0, 0, 0, 8, 0, 0, 0, 14,
            0, 0, 0, 6, 0, 0, 0, 3,
            'v', 'w', 'x', 'y', 'z', 0,
            'a', 'b', 'c', 'd', 0, 0,
            0, 10,
            1, 0, 0, 3, 0, 0, 0, 1, 0, 3, 0, 0,
            1, 1, 0, 3, 0, 0, 0, 1, 0, 3, 0, 0,
            1, 2, 0, 3, 0, 0, 0, 1, 0, 8, 0, 0,
            1, 3, 0, 3, 0, 0, 0, 1, 0, 1, 0, 0,
            1, 17, 0, 4, 0, 0, 0, 2, 0, 0, 0, 18,
            1, 22, 0, 3, 0, 0, 0, 1, 0, 2, 0, 0,
            1, 23, 0, 4, 0, 0, 0, 2, 0, 0, 0, 26,
            1, 61, 0, 3, 0, 0, 0, 1, 0, 1, 0, 0,
            156, 64, 0, 2, 0, 0, 0, 6, 0, 0, 0, 34,
            195, 80, 0, 2, 0, 0, 0, 5, 0, 0, 0, 40,
            0, 0, 0, 0};
        Run run = Run.start().picture(3, 3, 8, 1, 2, 3, 4, 5, 6, 7, 8, 9).text(50000, "abcd").text(40000, "vwxyz");
        Check.due("least first", run.takes("write", x -> x.write(1, 2, 1), 164).file(), least);
        Check.due("greatest first", run.clear(true).takes("write", x -> x.write(1, 2, 1), 164).file(), greatest);
        Run again = run.page(1, 2, 1).takes("a second page", x -> x.write(1, 2, 1), 164);
        Check.due("its strips", again.object().field(1, 273, 1), 172 + 6);
        Check.due("its text", again.file(172 + 26, 172 + 32), 'v', 'w', 'x', 'y', 'z', 0);
        Check.due("the link to it", again.file(168, 172), 210, 0, 0, 0);
    }

    /** "each beginning at an even place, with a byte 0 before it if it needs one". */
    private static void evenPlaces() {
        for (int n = 1; n <= 12; n++) {
            for (int m = 1; m <= 12; m++) {
                String first = "abcdefghijkl".substring(0, n);
                String second = "ABCDEFGHIJKL".substring(0, m);
                Run run = Run.start().picture(1, 3, 8, 1, 2, 3).text(50000, second).text(40000, first);
                int grown = pageBytes(1, 3, 3, first, second);
                int[] file = run.takes("write", x -> x.write(1, 3, 1), grown).file();
                int[] due = new int[file.length];
                System.arraycopy(new int[] {73, 73, 42, 0, file.length - 126, 0, 0, 0, 1, 2, 3, 0}, 0, due, 0, 12);
                int at = 12;
                for (String text : new String[] {first, second}) {
                    for (int k = 0; k < text.length() && text.length() > 3; k++) {
                        due[at + k] = text.charAt(k);
                    }
                    at += text.length() > 3 ? even(text.length() + 1) : 0;
                }
                Check.due("what stands before the directory", Arrays.copyOf(file, at), Arrays.copyOf(due, at));
                Check.due("the directory is at an even place", at, file.length - 126);
                Check.due("it has ten entries", file[at], 10);
            }
        }
        Run odd = Run.start().picture(3, 3, 8, 1, 2, 3, 4, 5, 6, 7, 8, 9);
        Check.due("three odd strips", odd.page(1, 1, 1).file(8, 44), 1, 2, 3, 0, 4, 5, 6, 0, 7, 8, 9, 0,
                8, 0, 0, 0, 12, 0, 0, 0, 16, 0, 0, 0, 3, 0, 0, 0, 3, 0, 0, 0, 3, 0, 0, 0);
    }

    /** "if there are two strips or more, the places of all strips as LONGs, and then their lengths". */
    private static void oneStripOrTwo() {
        Run run = Run.start().picture(2, 2, 8, 1, 2, 3, 4);
        Run one = run.takes("one strip", x -> x.write(1, 2, 1), 4 + 102);
        Check.due("its place in the entry", one.file(12 + 2 + 48, 12 + 2 + 60), 17, 1, 4, 0, 1, 0, 0, 0, 8, 0, 0, 0);
        Check.due("its length in the entry", one.file(12 + 2 + 72, 12 + 2 + 84), 23, 1, 4, 0, 1, 0, 0, 0, 4, 0, 0, 0);
        Run two = run.takes("two strips", x -> x.write(1, 1, 1), 4 + 16 + 102);
        Check.due("the strips and their numbers", two.file(8, 28), 1, 2, 3, 4, 8, 0, 0, 0, 10, 0, 0, 0, 2, 0, 0, 0, 2, 0, 0, 0);
        Check.due("their places' entry", two.file(28 + 2 + 48, 28 + 2 + 60), 17, 1, 4, 0, 2, 0, 0, 0, 12, 0, 0, 0);
        Check.due("their lengths' entry", two.file(28 + 2 + 72, 28 + 2 + 84), 23, 1, 4, 0, 2, 0, 0, 0, 20, 0, 0, 0);
        Run sixteen = Run.start().clear(true).picture(1, 16, 8).takes("sixteen strips", x -> x.write(1, 1, 1), 32 + 128 + 102);
        Check.due("the last place", sixteen.object().field(0, 273, 15), 38);
        Check.due("the last length", sixteen.object().field(0, 279, 15), 1);
        Check.due("their places' entry", sixteen.file(168 + 2 + 48, 168 + 2 + 60), 1, 17, 0, 4, 0, 0, 0, 16, 0, 0, 0, 40);
        Check.due("their lengths' entry", sixteen.file(168 + 2 + 72, 168 + 2 + 84), 1, 23, 0, 4, 0, 0, 0, 16, 0, 0, 0, 104);
    }

    /** "each label that takes more than four bytes (its characters and a byte 0)". */
    private static void textsOfFourBytesOrFive() {
        int[][] entries = {{'a', 0, 0, 0}, {'a', 'b', 0, 0}, {'a', 'b', 'c', 0}, {10, 0, 0, 0}, {10, 0, 0, 0}};
        int[] grown = {2 + 114, 2 + 114, 2 + 114, 2 + 6 + 114, 2 + 6 + 114};
        for (int n = 1; n <= 5; n++) {
            String text = "abcde".substring(0, n);
            int due = grown[n - 1];
            Run run = Run.start().text(32768, text).takes("a text of " + n, x -> x.write(1, 1, 1), due);
            int entry = 8 + due - 16;
            Check.due("its entry's head", run.file(entry, entry + 8), 0, 128, 2, 0, n + 1, 0, 0, 0);
            Check.due("its entry's four bytes", run.file(entry + 8, entry + 12), entries[n - 1]);
        }
        Run twelve = Run.start().clear(true).text(65535, "abcdefghijkl").takes("twelve", x -> x.write(1, 1, 1), 2 + 14 + 114);
        Check.due("the text", twelve.file(10, 24), 'a', 'b', 'c', 'd', 'e', 'f', 'g', 'h', 'i', 'j', 'k', 'l', 0, 0);
        Check.due("its entry", twelve.file(24 + 98, 24 + 110), 255, 255, 0, 2, 0, 0, 0, 13, 0, 0, 0, 10);
    }

    /** "the one with the lower tag first"; "then the labels, the lower tag first". */
    private static void lowerTagFirst() {
        int[][] tags = {{32768, 65535}, {32768, 32769}, {65534, 65535}, {32767 + 256, 33024}, {40000, 40001}};
        for (int[] pair : tags) {
            Run up = Run.start().text(pair[0], "abcd").text(pair[1], "efghi");
            Run down = Run.start().text(pair[1], "efghi").text(pair[0], "abcd");
            up.page(1, 1, 1).fileAs("begun in either order", down.page(1, 1, 1));
            Check.due("the texts", down.page(1, 1, 1).file(10, 22), 'a', 'b', 'c', 'd', 0, 0, 'e', 'f', 'g', 'h', 'i', 0);
            Check.due("the lower tag's field", down.page(1, 1, 1).object().field(0, pair[0], 3), 'd');
            Check.due("the higher tag's field", down.page(1, 1, 1).object().field(0, pair[1], 4), 'i');
            down.page(1, 1, 1).takes("tags that go up", x -> x.load(0), 0);
        }
    }

    /** "Of the four bytes of an entry those that hold no value are 0. The LONG behind the entries is 0." */
    private static void bytesThatHoldNoValue() {
        int[][] dues = {{0, 1, 16}, {1, 1, 15}, {2, 1, 8}, {3, 1, 1}, {5, 1, 15}, {7, 1, 2}};
        for (int order = 0; order < 2; order++) {
            boolean greatest = order == 1;
            Run ones = Run.start().clear(greatest).then(x -> {
                x.begin(16, 16, 8);
                x.fill(0, 0, 16, 16, 255);
                x.write(1, 16, 1);
                x.write(1, 16, 1);
                x.clear(greatest);
            });
            int[] file = ones.washed(16, 15, 8).text(40000, "x").text(50000, "yz").page(1, 15, 2).file();
            int directory = 8 + 240;
            for (int[] due : dues) {
                int at = directory + 2 + 12 * due[0] + 8;
                int[] four = greatest ? new int[] {0, due[2], 0, 0} : new int[] {due[2], 0, 0, 0};
                Check.due("entry " + due[0], Arrays.copyOfRange(file, at, at + 4), four);
            }
            int texts = directory + 2 + 12 * 8;
            Check.due("a text of one", Arrays.copyOfRange(file, texts + 8, texts + 12), 'x', 0, 0, 0);
            Check.due("a text of two", Arrays.copyOfRange(file, texts + 20, texts + 24), 'y', 'z', 0, 0);
            Check.due("the LONG behind", Arrays.copyOfRange(file, texts + 24, file.length), 0, 0, 0, 0);
        }
    }

    /** "The LONG that was 0 at the end of the WALK (the header's ...) becomes the directory's place." */
    private static void linkOfTheHeader() {
        Check.due("the first page", Run.start().page(1, 1, 1).file(4, 8), 10, 0, 0, 0);
        Check.due("greatest first", Run.start().clear(true).page(1, 1, 1).file(4, 8), 0, 0, 0, 10);
        Run lost = Run.two(true).poke(4, 0, 0, 0, 0).washed(1, 1, 8);
        Run found = lost.takes("pages that were lost stay lost", x -> x.write(1, 1, 1), 104);
        Check.due("the header's LONG", found.file(4, 8), 0, 0, 726 / 256, 726 % 256);
        Check.due("one page", found.object().pages(), 1);
        int[] due = Run.two(true).file();
        due[6] = 726 / 256;
        due[7] = 726 % 256;
        Check.due("nothing else changes", Arrays.copyOf(found.file(), 724), due);
    }

    /** "(... or the last directory's)". */
    private static void linkOfTheLastDirectory() {
        for (int order = 0; order < 2; order++) {
            boolean greatest = order == 1;
            Run run = Run.start().clear(greatest).picture(1, 1, 8, 9);
            for (int n = 1; n < 8; n++) {
                int[] before = run.page(1, 1, 1).file();
                run = run.page(1, 1, 1);
                int[] after = run.page(1, 1, 1).file();
                int place = before.length + 2;
                for (int k = 0; k < 4; k++) {
                    int shift = greatest ? 24 - 8 * k : 8 * k;
                    before[before.length - 4 + k] = place >> shift & 255;
                }
                Check.due("only the last LONG changes, page " + n, Arrays.copyOf(after, before.length), before);
            }
            Run three = new Forge(greatest).putShort(Forge.DIRECTORY, 3).putLong(Forge.entry(3), 0).run();
            int[] due = three.file();
            int at = Forge.entry(3);
            due[greatest ? at + 3 : at] = (Forge.LENGTH + 2) % 256;
            due[greatest ? at + 2 : at + 1] = (Forge.LENGTH + 2) / 256;
            Run written = three.takes("behind a directory of three entries", x -> x.write(1, 2, 1), 116);
            Check.due("its LONG alone changes", Arrays.copyOf(written.file(), Forge.LENGTH), due);
        }
    }

    /** Promise 13 says nothing of picture and labels: they stay. */
    private static void onlyTheFile() {
        for (int compression : new int[] {1, 5, 32773}) {
            for (int predictor = 1; predictor <= 2; predictor++) {
                for (int rows : new int[] {1, 3, 5}) {
                    Run before = busy(true);
                    Run after = before.page(compression, rows, predictor);
                    after.pictureAs("write", before);
                    after.labelsAs("write", before);
                    int grown = before.object().write(compression, rows, predictor);
                    Check.due("the answer is the growth", after.object().length(), before.object().length() + grown);
                    Check.due("a page more", after.object().pages(), 2);
                }
            }
        }
    }
}
