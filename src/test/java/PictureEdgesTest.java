import java.util.Arrays;

/** The edges of PICTURE, and of promises 6 to 10: each method stands for the sentence above it. */
public final class PictureEdgesTest {
    private static final int LEAST = Integer.MIN_VALUE;
    private static final int MOST = Integer.MAX_VALUE;

    public static void main(String[] args) {
        sidesAndDepthsTaken();
        sidesRefused();
        depthsRefused();
        allSamplesZero();
        shapes();
        fillTaken();
        fillSidesBelowOne();
        fillOutside();
        fillSumsThatWrap();
        fillValues();
        washRemainders();
        washExactly();
        washOnlyThePicture();
        samplesInside();
        samplesOutside();
        Check.end();
    }

    /** A run whose file, picture and labels all hold something. */
    private static Run busy(int w, int h, int d) {
        return Run.start().clear(true).washed(4, 3, 2).text(40000, "abcdef").page(5, 2, 2).text(50000, "x").washed(w, h, d);
    }

    /** "w columns (1 .. 16), h rows (1 .. 16), depth d (1, 2, 4 or 8)"; promise 6: "labels and file stay". */
    private static void sidesAndDepthsTaken() {
        Run before = busy(7, 9, 4);
        for (int w : new int[] {1, 2, 15, 16}) {
            for (int h : new int[] {1, 2, 15, 16}) {
                for (int d : new int[] {1, 2, 4, 8}) {
                    Run after = before.takes("begin(" + w + ", " + h + ", " + d + ")", x -> x.begin(w, h, d));
                    Check.due("its shape", after.object().shape(), 1000000 * d + 1000 * w + h);
                    Check.due("its samples", after.samples(), new int[w * h]);
                    after.fileAs("begin", before);
                    after.labelsAs("begin", before);
                }
            }
        }
    }

    /** Promise 6: "false, changing nothing, when w or h is not 1 .. 16". */
    private static void sidesRefused() {
        for (Run before : new Run[] {busy(16, 16, 8), busy(1, 1, 1), Run.start()}) {
            for (int side : new int[] {0, 17, -1, -16, 18, 32, 256 + 1, 65536 + 1, LEAST, LEAST + 1, MOST}) {
                before.refuses("begin(" + side + ", 1, 1)", x -> x.begin(side, 1, 1));
                before.refuses("begin(16, " + side + ", 8)", x -> x.begin(16, side, 8));
                before.refuses("begin(" + side + ", " + side + ", 4)", x -> x.begin(side, side, 4));
            }
        }
    }

    /** Promise 6: "or d is not 1, 2, 4 or 8". */
    private static void depthsRefused() {
        Run before = busy(16, 16, 8);
        for (int d : new int[] {0, 3, 5, 6, 7, 9, 10, 12, 15, 16, 32, 64, 256 + 8, 65536 + 1, -1, -2, -4, -8, LEAST, MOST}) {
            before.refuses("begin(1, 1, " + d + ")", x -> x.begin(1, 1, d));
            before.refuses("begin(16, 16, " + d + ")", x -> x.begin(16, 16, d));
        }
    }

    /** Promise 6: "with all samples 0", also those that an earlier, greater picture had. */
    private static void allSamplesZero() {
        Run used = Run.start().then(x -> {
            x.begin(16, 16, 8);
            x.fill(0, 0, 16, 16, 255);
        });
        Check.due("the same shape again", used.takes("begin", x -> x.begin(16, 16, 8)).samples(), new int[256]);
        Run small = used.takes("begin(3, 2, 1)", x -> x.begin(3, 2, 1));
        Check.due("a smaller picture", small.samples(), new int[6]);
        Check.due("the greatest again", small.takes("begin", x -> x.begin(16, 16, 8)).samples(), new int[256]);
    }

    /** Promise 7, from the least to the greatest. */
    private static void shapes() {
        Check.due("the least shape", Run.start().object().shape(), 1001001);
        Check.due("the greatest shape", busy(16, 16, 8).object().shape(), 8016016);
        Check.due("one column", busy(1, 16, 2).object().shape(), 2001016);
        Check.due("one row", busy(16, 1, 4).object().shape(), 4016001);
    }

    /** Promise 8: "The samples in columns x .. x + w - 1 of rows y .. y + h - 1 become v", and no others. */
    private static void fillTaken() {
        for (int[] shape : new int[][] {{16, 16, 8}, {5, 3, 4}, {1, 1, 1}, {16, 1, 2}, {1, 16, 8}}) {
            int columns = shape[0];
            int rows = shape[1];
            Run before = busy(columns, rows, shape[2]);
            int[][] blocks = {{0, 0, columns, rows}, {0, 0, 1, 1}, {columns - 1, rows - 1, 1, 1}, {columns - 1, 0, 1, rows},
                {0, rows - 1, columns, 1}, {columns / 2, rows / 2, columns - columns / 2, rows - rows / 2}};
            for (int[] block : blocks) {
                int[] due = before.samples();
                for (int k = 0; k < due.length; k++) {
                    boolean across = k % columns >= block[0] && k % columns < block[0] + block[2];
                    boolean down = k / columns >= block[1] && k / columns < block[1] + block[3];
                    due[k] = across && down ? 1 : due[k];
                }
                Run after = before.takes("fill" + Arrays.toString(block), x -> x.fill(block[0], block[1], block[2], block[3], 1));
                Check.due("fill" + Arrays.toString(block) + " of " + Arrays.toString(shape), after.samples(), due);
                after.fileAs("fill", before);
                after.labelsAs("fill", before);
            }
        }
    }

    private static void refused(Run before, int... n) {
        before.refuses("fill" + Arrays.toString(n), x -> x.fill(n[0], n[1], n[2], n[3], n[4]));
    }

    /** Promise 8: "false, changing nothing, when w or h is below 1". */
    private static void fillSidesBelowOne() {
        for (Run before : new Run[] {busy(16, 16, 8), busy(3, 2, 4), Run.start()}) {
            for (int side : new int[] {0, -1, -2, -16, LEAST, LEAST + 1}) {
                refused(before, 0, 0, side, 1, 1);
                refused(before, 0, 0, 1, side, 1);
                refused(before, 0, 0, side, side, 0);
            }
        }
        refused(busy(3, 2, 4), 2, 1, 0, 1, 1);
        refused(busy(3, 2, 4), 2, 1, -1, 1, 1);
        refused(busy(3, 2, 4), 2, 1, 1, -1, 1);
        refused(busy(3, 2, 4), 3, 1, -1, 1, 1);
        refused(busy(3, 2, 4), 2, 2, 1, -1, 1);
    }

    /** Promise 8: "not all of these are in the picture". */
    private static void fillOutside() {
        for (int[] shape : new int[][] {{16, 16, 8}, {3, 2, 4}, {1, 1, 1}}) {
            int columns = shape[0];
            int rows = shape[1];
            Run before = busy(columns, rows, shape[2]);
            refused(before, -1, 0, 1, 1, 1);
            refused(before, 0, -1, 1, 1, 1);
            refused(before, -1, 0, columns, 1, 1);
            refused(before, 0, -1, 1, rows, 1);
            refused(before, -1, -1, columns + 2, rows + 2, 1);
            refused(before, columns, 0, 1, 1, 1);
            refused(before, 0, rows, 1, 1, 1);
            refused(before, 0, 0, columns + 1, 1, 1);
            refused(before, 0, 0, 1, rows + 1, 1);
            refused(before, columns - 1, 0, 2, 1, 1);
            refused(before, 0, rows - 1, 1, 2, 1);
            refused(before, 0, 0, columns + 1, rows + 1, 1);
            refused(before, columns, rows, 1, 1, 1);
        }
        refused(busy(3, 2, 4), 0, 0, 2, 3, 1);
        refused(busy(2, 3, 4), 0, 0, 3, 2, 1);
    }

    /** Promise 8, where x + w or y + h runs over. */
    private static void fillSumsThatWrap() {
        int[][] pairs = {{1, MOST}, {2, MOST}, {15, MOST}, {0, MOST}, {MOST, 1}, {MOST, 2}, {MOST, MOST}, {MOST - 1, 2},
            {MOST - 1, 3}, {LEAST, 1}, {LEAST, MOST}, {LEAST, LEAST}, {-1, 2}, {-1, MOST}, {-2, MOST}, {-16, 17}, {2, MOST - 1},
            {LEAST + 1, MOST}, {65536, 1}, {0, 65537}, {-65536, 65537}, {LEAST, LEAST + 1}, {1, LEAST}, {-1, LEAST}};
        for (Run before : new Run[] {busy(16, 16, 8), busy(3, 2, 4)}) {
            for (int[] pair : pairs) {
                refused(before, pair[0], 0, pair[1], 1, 1);
                refused(before, 0, pair[0], 1, pair[1], 1);
                refused(before, pair[0], pair[0], pair[1], pair[1], 1);
            }
        }
    }

    /** Promise 8: "or v is not 0 .. 2^d - 1". */
    private static void fillValues() {
        int[][] greatest = {{1, 1}, {2, 3}, {4, 15}, {8, 255}};
        for (int[] pair : greatest) {
            Run before = busy(3, 2, pair[0]);
            int most = pair[1];
            Run top = before.takes("the greatest of depth " + pair[0], x -> x.fill(2, 1, 1, 1, most));
            Check.due("is there", top.object().sample(2, 1), most);
            Run bottom = top.takes("the least of depth " + pair[0], x -> x.fill(2, 1, 1, 1, 0));
            Check.due("is there", bottom.object().sample(2, 1), 0);
            for (int v : new int[] {-1, most + 1, most + 2, 256, 257, 65536, -most - 1, LEAST, LEAST + 1, MOST}) {
                refused(before, 0, 0, 3, 2, v);
                refused(before, 2, 1, 1, 1, v);
                refused(before, 3, 1, 1, 1, v);
            }
        }
    }

    /** Promise 9: "the sample becomes the remainder 0 .. 2^d - 1 of the sum by 2^d". */
    private static void washRemainders() {
        int[][] depths = {{1, 2}, {2, 4}, {4, 16}, {8, 256}};
        for (int[] pair : depths) {
            int by = pair[1];
            Run one = Run.start().picture(1, 1, pair[0], 1);
            int[][] due = {{0, 1}, {by - 2, by - 1}, {by - 1, 0}, {by, 1}, {-1, 0}, {-2, by - 1}, {-by, 1}, {-by - 1, 0},
                {-by - 2, by - 1}, {2 * by - 2, by - 1}, {2 * by - 1, 0}, {MOST, 0}, {LEAST, 1}, {LEAST + 1, 2 % by}};
            for (int[] sum : due) {
                Run after = one.then(x -> x.wash(0, 0, sum[0]));
                Check.due("wash(0, 0, " + sum[0] + "), depth " + pair[0], after.object().sample(0, 0), sum[1]);
                after = one.then(x -> x.wash(MOST, LEAST, sum[0]));
                Check.due("column 0 and row 0 take c alone", after.object().sample(0, 0), sum[1]);
            }
        }
    }

    /** Promise 9: "reckoned exactly", for all samples of all depths. */
    private static void washExactly() {
        int[] numbers = {0, 1, -1, 3, 255, -256, 1000003, LEAST, MOST, LEAST + 1, MOST - 1};
        for (int d = 1; d <= 8; d *= 2) {
            for (int a : numbers) {
                for (int b : numbers) {
                    int depth = d;
                    int c = a ^ b;
                    Run before = Run.start().then(x -> {
                        x.begin(16, 16, depth);
                        x.wash(3, 5, 1);
                    });
                    int[] due = new int[256];
                    for (int k = 0; k < 256; k++) {
                        long sample = (3 * (k % 16) + 5 * (k / 16) + 1) % (1 << d);
                        due[k] = (int) Math.floorMod(sample + (long) a * (k % 16) + (long) b * (k / 16) + c, (long) (1 << d));
                    }
                    String what = "wash(" + a + ", " + b + ", " + c + "), depth " + d;
                    Check.due(what, before.then(x -> x.wash(a, b, c)).samples(), due);
                }
            }
        }
    }

    /** Promise 9 says nothing of file and labels: they stay. */
    private static void washOnlyThePicture() {
        Run before = busy(16, 16, 8);
        Run after = before.then(x -> x.wash(MOST, LEAST, -1));
        after.fileAs("wash", before);
        after.labelsAs("wash", before);
        Check.due("wash leaves the shape", after.object().shape(), 8016016);
        before.then(x -> x.wash(0, 0, 0)).pictureAs("wash(0, 0, 0)", before);
        before.then(x -> x.wash(256, -512, 1024)).pictureAs("multiples of 256", before);
    }

    /** Promise 10, inside the picture: the corners. */
    private static void samplesInside() {
        Run run = Run.start().picture(3, 2, 8, 10, 20, 30, 40, 50, 255);
        Check.due("sample(0, 0)", run.object().sample(0, 0), 10);
        Check.due("sample(2, 0)", run.object().sample(2, 0), 30);
        Check.due("sample(0, 1)", run.object().sample(0, 1), 40);
        Check.due("sample(2, 1)", run.object().sample(2, 1), 255);
        run.refuses("sample(1, 1) changes nothing", x -> x.sample(1, 1), 50);
    }

    /** Promise 10: "-1 when the picture has none there". */
    private static void samplesOutside() {
        for (int[] shape : new int[][] {{16, 16, 8}, {3, 2, 4}, {1, 1, 1}}) {
            Run run = Run.start().then(x -> {
                x.begin(16, 16, 8);
                x.fill(0, 0, 16, 16, 1);
            }).washed(shape[0], shape[1], shape[2]);
            for (int place : new int[] {-1, -2, -16, 16, 17, 256, 65536, LEAST, LEAST + 1, MOST}) {
                run.refuses("sample(" + place + ", 0)", x -> x.sample(place, 0), -1);
                run.refuses("sample(0, " + place + ")", x -> x.sample(0, place), -1);
                run.refuses("sample(" + place + ", " + place + ")", x -> x.sample(place, place), -1);
            }
            run.refuses("behind the last column", x -> x.sample(shape[0], shape[1] - 1), -1);
            run.refuses("behind the last row", x -> x.sample(shape[0] - 1, shape[1]), -1);
            run.refuses("behind both", x -> x.sample(shape[0], shape[1]), -1);
            run.refuses("the row before, one column too far", x -> x.sample(shape[0], 0), -1);
            run.refuses("the row after, one column too near", x -> x.sample(-1, shape[1] - 1), -1);
        }
    }
}
