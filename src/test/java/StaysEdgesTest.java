import java.util.function.Consumer;
import java.util.function.ToLongFunction;

/**
 * What a call leaves as it was: every call of the face, taken and refused, on objects of which the file,
 * the picture and two labels all hold something. Parts that no sentence says are changed stay.
 */
public final class StaysEdgesTest {
    private static final int[] NUMBERS = {Integer.MIN_VALUE, -1, 0, 1, 2, 7, 255, 256, 900, 65536, Integer.MAX_VALUE};

    public static void main(String[] args) {
        for (boolean greatest : new boolean[] {false, true}) {
            for (Run run : starts(greatest)) {
                questions(run);
                refusedPokesAndPictures(run);
                refusedLabels(run);
                refusedPages(run);
                fileAlone(run);
                pictureAlone(run);
                labelsAlone(run);
            }
            refusedWrites(greatest);
            refusedLoads(greatest);
        }
        Check.end();
    }

    /** Labels begun in both orders of their tags, short and long; files that are sound, broken off, empty. */
    private static Run[] starts(boolean greatest) {
        Run pages = Run.start().clear(greatest).text(50000, "abc").text(40000, "ABCDEFG").washed(9, 4, 4).page(5, 2, 2)
                .washed(3, 7, 2).page(32773, 7, 1).washed(5, 3, 4);
        int last = pages.object().length() - 1;
        Run broken = pages.poke(last, 1);
        Run unmarked = pages.poke(2, 1);
        Run empty = Run.start().clear(greatest).text(32768, "AB").text(65535, "abcdefghijk").washed(2, 2, 1);
        Run full = Run.full(greatest).text(33000, "xyz").washed(16, 16, 8);
        return new Run[] {pages, broken, unmarked, empty, full, Run.start()};
    }

    private static void nothing(String what, Run before, Consumer<TaggedRaster> call) {
        Run after = before.then(call);
        after.fileAs(what, before);
        after.pictureAs(what, before);
        after.labelsAs(what, before);
    }

    /** A call that only answers: asked again it answers the same, and nothing has changed. */
    private static void asked(String what, Run before, ToLongFunction<TaggedRaster> call) {
        TaggedRaster x = before.object();
        Check.due(what + " asked again", call.applyAsLong(x), call.applyAsLong(x));
        nothing(what, before, call::applyAsLong);
    }

    private static void questions(Run run) {
        asked("length()", run, TaggedRaster::length);
        asked("shape()", run, TaggedRaster::shape);
        asked("pages()", run, TaggedRaster::pages);
        asked("sound()", run, x -> x.sound() ? 1 : 0);
        for (int n : NUMBERS) {
            asked("byteAt(" + n + ")", run, x -> x.byteAt(n));
            asked("sample(" + n + ", 0)", run, x -> x.sample(n, 0));
            asked("sample(0, " + n + ")", run, x -> x.sample(0, n));
            asked("field(" + n + ", 273, 0)", run, x -> x.field(n, 273, 0));
            asked("field(0, " + n + ", 0)", run, x -> x.field(0, n, 0));
            asked("field(0, 279, " + n + ")", run, x -> x.field(0, 279, n));
            asked("fieldCount(" + n + ", 40000)", run, x -> x.fieldCount(n, 40000));
            asked("fieldCount(0, " + n + ")", run, x -> x.fieldCount(0, n));
        }
    }

    /** Promises 5, 6 and 8: "false, changing nothing". */
    private static void refusedPokesAndPictures(Run run) {
        int length = run.object().length();
        for (int place : new int[] {Integer.MIN_VALUE, -1, length, length + 1, 900, Integer.MAX_VALUE}) {
            run.refuses("poke(" + place + ", 1)", x -> x.poke(place, 1));
        }
        for (int b : new int[] {Integer.MIN_VALUE, -1, 256, 511, Integer.MAX_VALUE}) {
            run.refuses("poke(7, " + b + ")", x -> x.poke(7, b));
        }
        for (int n : new int[] {Integer.MIN_VALUE, -1, 0, 17, Integer.MAX_VALUE}) {
            run.refuses("begin(" + n + ", 2, 2)", x -> x.begin(n, 2, 2));
            run.refuses("begin(2, " + n + ", 2)", x -> x.begin(2, n, 2));
            run.refuses("begin(2, 2, " + n + ")", x -> x.begin(2, 2, n));
            run.refuses("fill(0, 0, " + n + ", 1, 1)", x -> x.fill(0, 0, n, 1, 1));
            run.refuses("fill(0, 0, 1, " + n + ", 1)", x -> x.fill(0, 0, 1, n, 1));
        }
        for (int n : new int[] {Integer.MIN_VALUE, -1, 16, Integer.MAX_VALUE}) {
            run.refuses("fill(" + n + ", 0, 1, 1, 1)", x -> x.fill(n, 0, 1, 1, 1));
            run.refuses("fill(0, " + n + ", 1, 1, 1)", x -> x.fill(0, n, 1, 1, 1));
        }
        for (int v : new int[] {Integer.MIN_VALUE, -1, 256, Integer.MAX_VALUE}) {
            run.refuses("fill(0, 0, 1, 1, " + v + ")", x -> x.fill(0, 0, 1, 1, v));
        }
    }

    /** Promise 11: "False, changing nothing". */
    private static void refusedLabels(Run run) {
        for (int tag : new int[] {Integer.MIN_VALUE, -1, 0, 32767, 65536, Integer.MAX_VALUE}) {
            run.refuses("label(" + tag + ", A)", x -> x.label(tag, 'A'));
        }
        for (int c : new int[] {Integer.MIN_VALUE, -1, 0, 128, 321, Integer.MAX_VALUE}) {
            run.refuses("label(40000, " + c + ")", x -> x.label(40000, c));
            run.refuses("label(50001, " + c + ")", x -> x.label(50001, c));
        }
        Run two = run.then(TaggedRaster::unlabel).text(60000, "abcdefghijkl").text(59999, "ABCDEFGHIJKL");
        two.refuses("a thirteenth character", x -> x.label(60000, 'm'));
        two.refuses("a thirteenth character of the other", x -> x.label(59999, 'M'));
        two.refuses("a third label", x -> x.label(60001, 'n'));
    }

    /** Promises 13 and 16: BAD_ARGUMENT and NO_PAGE change nothing. */
    private static void refusedPages(Run run) {
        int rows = run.object().shape() % 1000;
        int pages = run.object().pages();
        for (int n : new int[] {Integer.MIN_VALUE, -1, 0, Integer.MAX_VALUE}) {
            run.refuses("write(" + n + ", 1, 1)", x -> x.write(n, 1, 1), TaggedRaster.BAD_ARGUMENT);
            run.refuses("write(1, " + n + ", 1)", x -> x.write(1, n, 1), TaggedRaster.BAD_ARGUMENT);
            run.refuses("write(1, 1, " + n + ")", x -> x.write(1, 1, n), TaggedRaster.BAD_ARGUMENT);
        }
        run.refuses("a row too many a strip", x -> x.write(5, rows + 1, 2), TaggedRaster.BAD_ARGUMENT);
        for (int page : new int[] {Integer.MIN_VALUE, -1, pages, pages + 1, Integer.MAX_VALUE}) {
            run.refuses("load(" + page + ")", x -> x.load(page), TaggedRaster.NO_PAGE);
        }
    }

    /** Promise 13: UNSOUND and FULL change nothing, with any compression, rows a strip and predictor. */
    private static void refusedWrites(boolean greatest) {
        Run[] runs = starts(greatest);
        Run eight = Run.start().clear(greatest);
        for (int page = 0; page < 8; page++) {
            eight = eight.page(1, 1, 1);
        }
        Run labelled = eight.text(50000, "abc").text(40000, "ABCDEFG").washed(4, 3, 8);
        for (int compression : new int[] {1, 5, 32773}) {
            for (int predictor = 1; predictor <= 2; predictor++) {
                int p = predictor;
                runs[1].refuses("broken off", x -> x.write(compression, 2, p), TaggedRaster.UNSOUND);
                runs[2].refuses("without a header", x -> x.write(compression, 1, p), TaggedRaster.UNSOUND);
                runs[4].refuses("no byte left", x -> x.write(compression, 5, p), TaggedRaster.FULL);
                runs[4].refuses("no byte left, sixteen strips", x -> x.write(compression, 1, p), TaggedRaster.FULL);
                labelled.refuses("eight pages", x -> x.write(compression, 2, p), TaggedRaster.FULL);
            }
        }
    }

    /** Promise 16: BAD_FIELDS and BAD_STRIP - k change nothing, and "Labels stay." */
    private static void refusedLoads(boolean greatest) {
        for (int compression : new int[] {1, 5, 32773}) {
            Run page = Run.start().clear(greatest).washed(7, 5, 8).page(compression, 2, 2)
                    .text(50000, "abc").text(40000, "ABCDEFG").washed(5, 3, 4);
            int directory = page.object().length() - 6 - 12 * 8;
            int least = greatest ? 1 : 0;
            for (int entry = 0; entry < 8; entry++) {
                int kind = directory + 2 + 12 * entry + 2 + least;
                page.poke(kind, 1).refuses("a field of kind 1", x -> x.load(0), TaggedRaster.BAD_FIELDS);
            }
            for (int strip = 0; strip < 3; strip++) {
                int length = directory - 12 + 4 * strip + (greatest ? 3 : 0);
                page.poke(length, 0).refuses("strip " + strip + " empty", x -> x.load(0), TaggedRaster.BAD_STRIP - strip);
            }
        }
    }

    /** Promises 2, 5 and 13: "Picture and labels stay." */
    private static void fileAlone(Run run) {
        for (boolean greatest : new boolean[] {false, true}) {
            Run cleared = run.clear(greatest);
            cleared.pictureAs("clear", run);
            cleared.labelsAs("clear", run);
        }
        int length = run.object().length();
        for (int place : new int[] {0, 1, 2, 3, 4, 7, length / 2, length - 1}) {
            int[] due = run.file();
            due[place] = 200;
            Run poked = run.poke(place, 200);
            Check.due("poke: that byte alone", poked.file(), due);
            poked.pictureAs("poke", run);
            poked.labelsAs("poke", run);
        }
        for (int compression : new int[] {1, 5, 32773}) {
            for (int predictor = 1; predictor <= 2; predictor++) {
                Run written = run.clear(true).page(compression, 1, predictor);
                written.pictureAs("write", run);
                written.labelsAs("write", run);
            }
        }
    }

    /** Promises 6, 8, 9 and 16: "labels and file stay". */
    private static void pictureAlone(Run run) {
        pictureOnly("begin", run, x -> Check.due("begin", x.begin(6, 11, 2), true));
        pictureOnly("begin anew", run, x -> Check.due("begin", x.begin(1, 1, 1), true));
        pictureOnly("fill", run, x -> Check.due("fill", x.fill(0, 0, 1, 1, 1), true));
        pictureOnly("wash", run, x -> x.wash(1, 2, 3));
        pictureOnly("wash by nothing", run, x -> x.wash(0, 0, 0));
        int pages = run.object().pages();
        for (int page = 0; page < pages; page++) {
            int k = page;
            pictureOnly("load", run, x -> Check.due("load", x.load(k), 0));
        }
    }

    private static void pictureOnly(String what, Run before, Consumer<TaggedRaster> call) {
        Run after = before.then(call);
        after.fileAs(what, before);
        after.labelsAs(what, before);
    }

    /** Promises 11 and 12 say nothing of file and picture: they stay. */
    private static void labelsAlone(Run run) {
        labelsOnly("unlabel", run, TaggedRaster::unlabel);
        Run none = run.then(TaggedRaster::unlabel);
        labelsOnly("unlabel without labels", none, TaggedRaster::unlabel);
        labelsOnly("a first label", none, x -> Check.due("label", x.label(65535, 127), true));
        Run one = none.text(65535, "abcdefghijk");
        labelsOnly("a twelfth character", one, x -> Check.due("label", x.label(65535, 1), true));
        labelsOnly("a second label", one, x -> Check.due("label", x.label(32768, 1), true));
        Run two = one.text(32768, "A");
        two.labelsAs("a second label leaves the first", none.text(32768, "A").text(65535, "abcdefghijk"));
        two.text(65535, "l").labelsAs("the first grows alone", none.text(32768, "A").text(65535, "abcdefghijkl"));
        two.text(32768, "B").labelsAs("the second grows alone", none.text(32768, "AB").text(65535, "abcdefghijk"));
    }

    private static void labelsOnly(String what, Run before, Consumer<TaggedRaster> call) {
        Run after = before.then(call);
        after.fileAs(what, before);
        after.pictureAs(what, before);
    }
}
