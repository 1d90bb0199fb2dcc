import java.util.function.Consumer;

/** What an earlier call read or wrote shows nowhere in a later one: the edges between calls on one object. */
public final class AgainEdgesTest {
    private static final int BAD_FIELDS = TaggedRaster.BAD_FIELDS;
    private static final int BAD_STRIP = TaggedRaster.BAD_STRIP;

    public static void main(String[] args) {
        pageBehindPage();
        loadsInTurns();
        missingPredictorIsOne();
        tableIsEmptyAtFirst();
        stripsThatFailedBefore();
        fieldsOfEachPage();
        walksOfEachCall();
        ordersOfEachFile();
        Check.end();
    }

    private static Consumer<TaggedRaster> picture(int w, int h, int d) {
        return x -> {
            x.begin(w, h, d);
            x.wash(37, 101, 1);
        };
    }

    /** Promise 13, with another page written and loaded before on the same object. */
    private static void pageBehindPage() {
        int[][] pages = {{16, 16, 8, 5, 16, 1}, {1, 1, 8, 5, 1, 1}, {3, 5, 4, 5, 2, 2}, {9, 3, 1, 32773, 3, 1}, {5, 7, 2, 32773, 4, 2},
            {16, 1, 8, 1, 1, 2}, {1, 16, 1, 1, 1, 1}, {7, 7, 8, 5, 7, 2}};
        for (int[] first : pages) {
            for (int[] second : pages) {
                Run alone = Run.start().clear(true).then(picture(second[0], second[1], second[2]));
                Run behind = Run.start().text(40000, "abcde").then(picture(first[0], first[1], first[2]))
                        .page(first[3], first[4], first[5]).takes("load(0)", x -> x.load(0), 0).then(TaggedRaster::unlabel)
                        .clear(true).then(picture(second[0], second[1], second[2]));
                Run due = alone.page(second[3], second[4], second[5]);
                Run got = behind.page(second[3], second[4], second[5]);
                got.fileAs("a page behind another", due);
                got.takes("load(0)", x -> x.load(0), 0).pictureAs("a page behind another", alone);
            }
        }
    }

    /** Promise 16, with other pages of other bytes read before on the same object. */
    private static void loadsInTurns() {
        for (int compression : new int[] {1, 5, 32773}) {
            for (int rows : new int[] {1, 3}) {
                Run ones = Run.start().then(x -> {
                    x.begin(5, 3, 8);
                    x.fill(0, 0, 5, 3, 255);
                });
                Run mixed = Run.start().washed(5, 3, 8);
                Run none = Run.start().picture(5, 3, 8);
                Run file = ones.page(compression, rows, 1).washed(5, 3, 8).page(compression, rows, 1)
                        .picture(5, 3, 8).page(compression, rows, 1);
                Run[] dues = {ones, mixed, none};
                Run run = file;
                for (int page : new int[] {0, 2, 1, 0, 1, 2, 0, 2, 1, 2}) {
                    run = run.takes("load(" + page + ")", x -> x.load(page), 0);
                    run.pictureAs("page " + page + " by " + compression, dues[page]);
                }
            }
        }
    }

    /** Promise 16: "317 (predictor; 1 if it is missing)", whatever the page before had. */
    private static void missingPredictorIsOne() {
        Run two = Run.start().picture(4, 1, 8, 9, 9, 9, 9).page(1, 1, 2).page(1, 1, 2);
        int last = two.object().length() - 4 - 12;
        Run missing = two.poke(last, 318 - 256);
        Run first = missing.takes("a page with predictor 2", x -> x.load(0), 0);
        Check.due("its samples", first.samples(), 9, 9, 9, 9);
        Run second = first.takes("a page without", x -> x.load(1), 0);
        Check.due("its samples", second.samples(), 9, 0, 0, 0);
        Run third = second.takes("a page with predictor 2", x -> x.load(0), 0);
        Check.due("its samples", third.samples(), 9, 9, 9, 9);
        Run written = missing.then(x -> Check.due("write", x.write(1, 1, 2) > 0, true));
        Check.due("behind a write with predictor 2", written.takes("load(1)", x -> x.load(1), 0).samples(), 9, 0, 0, 0);
    }

    /** DECODING: "at first the table is empty and the next code is number 1", whatever the strip before left. */
    private static void tableIsEmptyAtFirst() {
        Forge f = new Forge(false).shape(1, 4, 8, 5).number(Forge.ROWS_A_STRIP, 1);
        f.kind(Forge.PLACES, 3).count(Forge.PLACES, 4).numberLong(Forge.PLACES, 100);
        f.kind(Forge.LENGTHS, 3).count(Forge.LENGTHS, 4).numberLong(Forge.LENGTHS, 120);
        int[][] strips = {Codes.bytes(16, 1, 1, 17), Codes.bytes(1, 2, 17), Codes.bytes(16, 3, 4, 17), Codes.bytes(5, 6, 17)};
        for (int k = 0; k < 4; k++) {
            f.putShort(100 + 2 * k, 8 + 4 * k).putShort(120 + 2 * k, strips[k].length);
            for (int n = 0; n < strips[k].length; n++) {
                f.poke(8 + 4 * k + n, strips[k][n]);
            }
        }
        f.shows("four strips", 8001004, 0x11, 0x12, 0x34, 0x56);
        for (int k = 0; k < 4; k++) {
            int[] bad = Codes.bytes(18, 17);
            Run run = f.run().takes("load(0)", x -> x.load(0), 0).poke(8 + 4 * k, bad);
            run.refuses("a code of the table first", x -> x.load(0), BAD_STRIP - k);
            Run back = run.poke(8 + 4 * k, strips[k][0], strips[k][1]);
            Check.due("right again", back.takes("load(0)", x -> x.load(0), 0).samples(), 0x11, 0x12, 0x34, 0x56);
        }
    }

    /** Promise 16: a page that was refused leaves nothing for the page that is read next. */
    private static void stripsThatFailedBefore() {
        for (int compression : new int[] {1, 5, 32773}) {
            Run two = Run.start().washed(3, 4, 8).page(compression, 2, 1).washed(2, 2, 4).page(compression, 1, 2).washed(5, 5, 2);
            int place = two.object().byteAt(4) + 2 + 12 * 3 + 8;
            Run bad = two.poke(place, 2, 0);
            bad.refuses("a compression that is none", x -> x.load(0), BAD_FIELDS);
            Run next = bad.then(x -> x.load(0)).takes("load(1)", x -> x.load(1), 0);
            next.pictureAs("the page behind", Run.start().washed(2, 2, 4));
            Run cut = two.then(x -> {
                int lengths = (int) (x.field(0, 273, 1) + x.field(0, 279, 1));
                int at = lengths + lengths % 2 + 8;
                Check.due("the lengths are found", x.byteAt(at), x.field(0, 279, 0));
                x.poke(at + 4, x.byteAt(at + 4) - 1);
            });
            cut.refuses("the second strip is too short", x -> x.load(0), BAD_STRIP - 1);
            cut.then(x -> x.load(0)).takes("load(1)", x -> x.load(1), 0).pictureAs("the page behind", Run.start().washed(2, 2, 4));
            cut.then(x -> x.load(0)).takes("write", x -> x.write(compression, 5, 1) > 0)
                    .takes("load(2)", x -> x.load(2), 0).pictureAs("a page written behind", two);
        }
    }

    /** Promises 17 and 18 in turns, over pages and tags. */
    private static void fieldsOfEachPage() {
        TaggedRaster x = Run.full(true).object();
        for (int k = 0; k < 20; k++) {
            Check.due("columns of page 0", x.field(0, 256, 0), 16);
            Check.due("no field 1", x.field(0, 1, 0), -1);
            Check.due("no page 3", x.fieldCount(3, 256), -1);
            Check.due("columns of page 2", x.field(2, 256, 0), 8);
            Check.due("the text of page 2", x.fieldCount(2, 40000), 6);
            Check.due("no text of page 1", x.field(1, 40000, 0), -1);
            Check.due("a character", x.field(2, 40000, 4), 'e');
            Check.due("no seventh", x.field(2, 40000, 6), -1);
        }
    }

    /** Promises 14 and 15 in turns, over files that are sound and files that are not. */
    private static void walksOfEachCall() {
        TaggedRaster x = Run.two(false).object();
        for (int k = 0; k < 20; k++) {
            Check.due("two pages", x.pages(), 2);
            Check.due("sound", x.sound(), true);
            x.poke(2, 43);
            Check.due("no page", x.pages(), 0);
            Check.due("not sound", x.sound(), false);
            x.poke(2, 42);
            x.poke(5, 4);
            Check.due("no page there", x.pages(), 0);
            Check.due("not sound", x.sound(), false);
            x.poke(5, 1);
        }
    }

    /** Files of both orders, one behind the other, on one object. */
    private static void ordersOfEachFile() {
        Run run = Run.start().washed(5, 3, 4).text(50000, "abcdef");
        for (int k = 0; k < 6; k++) {
            boolean greatest = k % 2 == 0;
            Run alone = Run.start().washed(5, 3, 4).text(50000, "abcdef").clear(greatest).page(5, 2, 1).page(1, 1, 2);
            run = run.clear(greatest).page(5, 2, 1).page(1, 1, 2);
            run.fileAs("a file behind one of the other order", alone);
            Check.due("its fields", run.object().field(1, 257, 0), 3);
            run = run.takes("load(1)", x -> x.load(1), 0);
        }
    }
}
