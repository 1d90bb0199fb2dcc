/** The edges of FILE and HEADER, and of promises 1 to 5: each method stands for the sentence above it. */
public final class FileEdgesTest {
    private static final int LEAST = Integer.MIN_VALUE;
    private static final int MOST = Integer.MAX_VALUE;
    private static final int[] LEAST_FIRST = {73, 73, 42, 0, 0, 0, 0, 0};
    private static final int[] GREATEST_FIRST = {77, 77, 0, 42, 0, 0, 0, 0};

    public static void main(String[] args) {
        fromEightToNineHundredBytes();
        numbersWithoutSign(false);
        numbersWithoutSign(true);
        headerOrNot();
        orderIsTheFiles();
        firstDirectoryOrNone();
        newObject();
        clearMakesEightBytes();
        clearLeavesPictureAndLabels();
        clearForgetsAllBytes();
        lengthIsTheNumber();
        byteAtBothEnds();
        pokeBothEnds();
        pokeBytes();
        fiveHundredAndTwelveCalls();
        Check.end();
    }

    /** "at least 8 of them and at most 900". */
    private static void fromEightToNineHundredBytes() {
        Check.due("a new file", Run.start().object().length(), 8);
        Run full = Run.full(false);
        Check.due("a full file", full.object().length(), 900);
        full.then(TaggedRaster::unlabel).picture(1, 1, 1, 0)
                .refuses("the least page behind 900 bytes", x -> x.write(1, 1, 1), TaggedRaster.FULL);
    }

    /** "A SHORT is two bytes, a LONG four, a number without sign". */
    private static void numbersWithoutSign(boolean greatest) {
        for (int value : new int[] {0, 1, 127, 128, 255, 256, 32767, 32768, 65534, 65535}) {
            Forge f = new Forge(greatest).number(0, value);
            Check.due("the SHORT " + value, f.x.field(0, 256, 0), value);
        }
        for (long value : new long[] {0, 255, 256, 65535, 65536, 0xffffffL, 0x1000000L, 0x7fffffffL, 0x80000000L,
            0xfffffffeL, 0xffffffffL}) {
            Forge f = new Forge(greatest).kind(0, 4).numberLong(0, value);
            Check.due("the LONG " + value, f.x.field(0, 256, 0), value);
        }
    }

    /** "The file has a HEADER when its bytes 0 and 1 are so and the SHORT at 2 is 42". */
    private static void headerOrNot() {
        int[] marks = {0, 42, 72, 73, 74, 76, 77, 78, 201, 205, 255};
        int[] numbers = {0, 1, 41, 42, 43, 170, 255};
        for (int first : marks) {
            for (int second : marks) {
                for (int third : numbers) {
                    for (int fourth : numbers) {
                        boolean least = first == 73 && second == 73 && third == 42 && fourth == 0;
                        boolean most = first == 77 && second == 77 && third == 0 && fourth == 42;
                        TaggedRaster x = Run.start().poke(0, first, second, third, fourth).object();
                        String what = "a header " + first + " " + second + " " + third + " " + fourth;
                        Check.due(what + ": sound()", x.sound(), least || most);
                        Check.due(what + ": write", x.write(1, 1, 1), least || most ? 104 : TaggedRaster.UNSOUND);
                    }
                }
            }
        }
    }

    /** "the least byte first when the bytes 0 and 1 of the file are both 73, the greatest first when both are 77". */
    private static void orderIsTheFiles() {
        Run turned = Run.start().poke(0, GREATEST_FIRST).text(50000, "abcd").washed(3, 5, 4);
        Run cleared = Run.start().clear(true).text(50000, "abcd").washed(3, 5, 4);
        turned.page(5, 2, 2).fileAs("written behind a header poked greatest first", cleared.page(5, 2, 2));
        Run back = Run.start().clear(true).poke(0, LEAST_FIRST).text(50000, "abcd").washed(3, 5, 4);
        Run never = Run.start().text(50000, "abcd").washed(3, 5, 4);
        back.page(5, 2, 2).fileAs("written behind a header poked least first", never.page(5, 2, 2));
        TaggedRaster x = turned.page(1, 5, 1).object();
        Check.due("a field of the poked order", x.field(0, 257, 0), 5);
        x.poke(0, 73);
        x.poke(1, 73);
        x.poke(2, 42);
        x.poke(3, 0);
        Check.due("no directory in the other order", x.pages(), 0);
        Check.due("nor is it sound", x.sound(), false);
    }

    /** "the LONG at 4 is then the place of the first directory, 0 for none". */
    private static void firstDirectoryOrNone() {
        for (int order = 0; order < 2; order++) {
            Run header = Run.start().clear(order == 1);
            Check.due("none is sound", header.object().sound(), true);
            for (int place = 4; place < 8; place++) {
                for (int b : new int[] {1, 2, 8, 128, 255}) {
                    TaggedRaster x = header.poke(place, b).object();
                    Check.due("byte " + place + " is " + b + ": sound()", x.sound(), false);
                    Check.due("byte " + place + " is " + b + ": pages()", x.pages(), 0);
                }
            }
        }
    }

    /** Promise 1. */
    private static void newObject() {
        Run start = Run.start();
        Check.due("the file", start.file(), LEAST_FIRST);
        start.fileAs("as after clear(false)", start.clear(false));
        Check.due("one column, one row, depth 1", start.object().shape(), 1001001);
        Check.due("the sample", start.object().sample(0, 0), 0);
        Check.due("no second column", start.object().sample(1, 0), -1);
        Check.due("no second row", start.object().sample(0, 1), -1);
        start.takes("the greatest sample of depth 1", x -> x.fill(0, 0, 1, 1, 1));
        start.refuses("one more", x -> x.fill(0, 0, 1, 1, 2));
        Check.due("no labels", start.object().unlabel(), 0);
        start.text(32768, "a").text(65535, "b").refuses("two labels can be begun, no third", x -> x.label(40000, 99));
    }

    /** Promise 2: "a HEADER of 8 bytes without a directory". */
    private static void clearMakesEightBytes() {
        Run[] befores = {Run.start(), Run.start().clear(true), Run.two(false), Run.two(true), Run.full(false), Run.full(true),
            Run.start().poke(0, 0, 0, 0, 0), Run.start().poke(0, 255, 255, 255, 255, 255, 255, 255, 255)};
        for (Run before : befores) {
            Run least = before.clear(false);
            Check.due("clear(false)", least.file(), LEAST_FIRST);
            Check.due("its length", least.object().length(), 8);
            Check.due("nothing behind", least.object().byteAt(8), -1);
            Check.due("no page", least.object().pages(), 0);
            Check.due("sound", least.object().sound(), true);
            Run most = before.clear(true);
            Check.due("clear(true)", most.file(), GREATEST_FIRST);
            Check.due("its length", most.object().length(), 8);
            Check.due("nothing behind", most.object().byteAt(8), -1);
            Check.due("no page", most.object().pages(), 0);
            Check.due("sound", most.object().sound(), true);
        }
    }

    /** Promise 2: "Picture and labels stay." */
    private static void clearLeavesPictureAndLabels() {
        Run[] befores = {Run.start(), Run.full(true).washed(16, 16, 8).text(32768, "abcdefghijkl"),
            Run.start().picture(3, 1, 2, 3, 0, 1).text(65535, "z")};
        for (Run before : befores) {
            before.clear(false).pictureAs("clear(false)", before);
            before.clear(false).labelsAs("clear(false)", before);
            before.clear(true).pictureAs("clear(true)", before);
            before.clear(true).labelsAs("clear(true)", before);
        }
    }

    /** Promise 2: what stood in the file earlier shows nowhere in what is written later. */
    private static void clearForgetsAllBytes() {
        Run page = Run.start().washed(5, 3, 1).text(40000, "ab");
        Run used = Run.start().washed(5, 3, 1).text(40000, "ab").then(x -> {
            x.begin(16, 16, 8);
            x.fill(0, 0, 16, 16, 255);
            Check.due("write", x.write(1, 16, 1) > 0, true);
            Check.due("write", x.write(1, 16, 1) > 0, true);
            x.clear(false);
            x.begin(5, 3, 1);
            x.wash(37, 101, 1);
        });
        for (int rows = 1; rows <= 3; rows++) {
            used.page(1, rows, 1).fileAs("a page where others stood", page.page(1, rows, 1));
            used.page(5, rows, 2).fileAs("a page where others stood", page.page(5, rows, 2));
            used.page(32773, rows, 2).fileAs("a page where others stood", page.page(32773, rows, 2));
        }
    }

    /** Promise 3. */
    private static void lengthIsTheNumber() {
        Run run = Run.start();
        int length = 8;
        for (int page = 0; page < 8; page++) {
            Check.due("length()", run.object().length(), length);
            Check.due("the last byte is there", run.object().byteAt(length - 1) >= 0, true);
            Check.due("none is behind it", run.object().byteAt(length), -1);
            run = run.takes("write", x -> x.write(1, 1, 1), 104);
            length += 104;
        }
        Check.due("length() with eight pages", run.object().length(), 840);
        run.refuses("a ninth", x -> x.write(1, 1, 1), TaggedRaster.FULL);
    }

    /** Promise 4: "-1 when the place is not 0 .. length() - 1". */
    private static void byteAtBothEnds() {
        Run[] runs = {Run.start(), Run.start().clear(true), Run.two(true), Run.full(false)};
        for (Run run : runs) {
            int length = run.object().length();
            Run ends = run.poke(0, 255).poke(length - 1, 200);
            Check.due("byteAt(0)", ends.object().byteAt(0), 255);
            Check.due("byteAt(length() - 1)", ends.object().byteAt(length - 1), 200);
            for (int place : new int[] {-1, length, length + 1, 900, 901, -length, 65536, -65536, LEAST, MOST}) {
                ends.refuses("byteAt(" + place + ")", x -> x.byteAt(place), -1);
            }
        }
        Run refused = Run.two(false).takes("a page too many", x -> x.write(1, 16, 1), TaggedRaster.FULL);
        Check.due("byteAt behind a refused page", refused.object().byteAt(724), -1);
    }

    /** Promise 5: "when the place is not 0 .. length() - 1". */
    private static void pokeBothEnds() {
        Run[] runs = {Run.start(), Run.two(true), Run.full(false).text(32768, "q"),
            Run.two(false).takes("a page too many", x -> x.write(1, 16, 1), TaggedRaster.FULL)};
        for (Run run : runs) {
            int length = run.object().length();
            for (int place : new int[] {0, length - 1}) {
                int[] due = run.file();
                due[place] = 99;
                Run poked = run.takes("poke(" + place + ", 99)", x -> x.poke(place, 99));
                Check.due("the poked file", poked.file(), due);
                poked.pictureAs("poke leaves the picture", run);
                poked.labelsAs("poke leaves the labels", run);
            }
            for (int place : new int[] {-1, length, length + 1, 900, 65536, LEAST, LEAST + 8, MOST}) {
                run.refuses("poke(" + place + ", 1)", x -> x.poke(place, 1));
                run.refuses("poke(" + place + ", 256)", x -> x.poke(place, 256));
            }
        }
    }

    /** Promise 5: "or b is not 0 .. 255". */
    private static void pokeBytes() {
        Run run = Run.start().poke(3, 7);
        for (int b = 0; b <= 255; b++) {
            int value = b;
            Check.due("byte " + b, run.takes("poke(3, " + b + ")", x -> x.poke(3, value)).file(),
                    73, 73, 42, b, 0, 0, 0, 0);
        }
        for (int b : new int[] {-1, 256, 257, -255, -256, 511, 512, 65536, LEAST, LEAST + 1, MOST}) {
            run.refuses("poke(3, " + b + ")", x -> x.poke(3, b));
            run.refuses("poke(0, " + b + ")", x -> x.poke(0, b));
            run.refuses("poke(7, " + b + ")", x -> x.poke(7, b));
        }
    }

    /** "An object is used for at most 512 calls": the last of them are as good as the first. */
    private static void fiveHundredAndTwelveCalls() {
        TaggedRaster x = new TaggedRaster();
        x.begin(16, 16, 8);
        x.wash(7, 11, 3);
        for (int call = 2; call < 512; call += 6) {
            x.clear(call % 4 == 0);
            Check.due("write " + call, x.write(5, 16, 2) > 0, true);
            Check.due("write " + call, x.write(32773, 4, 1) > 0, true);
            Check.due("load(0) " + call, x.load(0), 0);
            Check.due("load(1) " + call, x.load(1), 0);
            Check.due("sample " + call, x.sample(15, 14), (7 * 15 + 11 * 14 + 3) % 256);
        }
    }
}
