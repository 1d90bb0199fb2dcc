/** Promises 6 to 10: begin, shape, fill, wash, sample. */
public final class PictureTest {
    private static final int LEAST = Integer.MIN_VALUE;
    private static final int MOST = Integer.MAX_VALUE;

    public static void main(String[] args) {
        beginning();
        refusedBeginnings();
        filling();
        refusedFillings();
        washing();
        washingExactly();
        sampling();
        Check.end();
    }

    private static void beginning() {
        for (int d = 1; d <= 8; d *= 2) {
            for (int w = 1; w <= 16; w++) {
                TaggedRaster x = new TaggedRaster();
                for (int h = 1; h <= 16; h++) {
                    Check.due("begin", x.begin(w, h, d), true);
                    Check.due("shape", x.shape(), 1000000 * d + 1000 * w + h);
                    x.fill(0, 0, w, h, 1);
                }
            }
        }
        TaggedRaster x = new TaggedRaster();
        Check.text(x, 40000, "x");
        x.begin(16, 16, 8);
        x.fill(0, 0, 16, 16, 255);
        Check.due("begin(16, 16, 8)", x.begin(16, 16, 8), true);
        Check.due("all samples 0", Check.samples(x), new int[256]);
        Check.due("the file stays", Check.file(x), 73, 73, 42, 0, 0, 0, 0, 0);
        Check.due("the labels stay", x.unlabel(), 1);
    }

    private static void refusedBeginnings() {
        TaggedRaster x = new TaggedRaster();
        Check.picture(x, 2, 1, 2, 3, 1);
        int[][] wrong = {{0, 1, 1}, {17, 1, 1}, {-1, 1, 1}, {1, 0, 1}, {1, 17, 1}, {1, -1, 1}, {1, 1, 0}, {1, 1, 3},
            {1, 1, 5}, {1, 1, 6}, {1, 1, 7}, {1, 1, 9}, {1, 1, 16}, {1, 1, -1}, {LEAST, 1, 1}, {1, MOST, 1}, {1, 1, LEAST}};
        for (int[] w : wrong) {
            Check.due("begin(" + w[0] + ", " + w[1] + ", " + w[2] + ")", x.begin(w[0], w[1], w[2]), false);
        }
        Check.due("shape behind refused calls", x.shape(), 2002001);
        Check.due("samples behind refused calls", Check.samples(x), 3, 1);
    }

    private static void filling() {
        TaggedRaster x = new TaggedRaster();
        x.begin(4, 3, 4);
        Check.due("fill(1, 1, 2, 2, 15)", x.fill(1, 1, 2, 2, 15), true);
        Check.due("an inner block", Check.samples(x), 0, 0, 0, 0, 0, 15, 15, 0, 0, 15, 15, 0);
        Check.due("fill(3, 2, 1, 1, 7)", x.fill(3, 2, 1, 1, 7), true);
        Check.due("fill(0, 0, 4, 1, 2)", x.fill(0, 0, 4, 1, 2), true);
        Check.due("corner and row", Check.samples(x), 2, 2, 2, 2, 0, 15, 15, 0, 0, 15, 15, 7);
        Check.due("fill(0, 0, 4, 3, 0)", x.fill(0, 0, 4, 3, 0), true);
        Check.due("all of it", Check.samples(x), new int[12]);
        x.begin(16, 16, 8);
        Check.due("fill to the last corner", x.fill(15, 15, 1, 1, 255), true);
        Check.due("sample(15, 15)", x.sample(15, 15), 255);
        Check.due("sample(14, 15)", x.sample(14, 15), 0);
    }

    private static void refusedFillings() {
        TaggedRaster x = new TaggedRaster();
        Check.picture(x, 3, 2, 2, 0, 1, 2, 3, 2, 1);
        int[][] wrong = {{0, 0, 0, 1, 1}, {0, 0, 1, 0, 1}, {0, 0, -1, 1, 1}, {0, 0, 1, -1, 1}, {-1, 0, 2, 1, 1},
            {0, -1, 1, 2, 1}, {0, 0, 4, 1, 1}, {0, 0, 1, 3, 1}, {3, 0, 1, 1, 1}, {0, 2, 1, 1, 1}, {1, 0, 3, 1, 1},
            {0, 1, 1, 2, 1}, {0, 0, 1, 1, 4}, {0, 0, 1, 1, -1}, {1, 0, MOST, 1, 1}, {0, 1, 1, MOST, 1},
            {MOST, 0, 1, 1, 1}, {0, MOST, 1, 1, 1}, {LEAST, 0, LEAST, 1, 1}, {LEAST, 0, MOST, 1, 1},
            {2, 1, MOST, MOST, 1}, {0, LEAST, 1, LEAST, 1}, {-3, 0, 3, 1, 1}, {0, 0, 1, 1, MOST}};
        for (int[] w : wrong) {
            Check.due("fill(" + w[0] + ", " + w[1] + ", " + w[2] + ", " + w[3] + ", " + w[4] + ")",
                    x.fill(w[0], w[1], w[2], w[3], w[4]), false);
        }
        Check.due("samples behind refused calls", Check.samples(x), 0, 1, 2, 3, 2, 1);
        for (int d = 1; d <= 8; d *= 2) {
            x.begin(1, 1, d);
            Check.due("the greatest value of depth " + d, x.fill(0, 0, 1, 1, (1 << d) - 1), true);
            Check.due("one more of depth " + d, x.fill(0, 0, 1, 1, 1 << d), false);
        }
    }

    private static void washing() {
        TaggedRaster x = new TaggedRaster();
        x.begin(3, 2, 4);
        x.wash(3, 5, 1);
        Check.due("wash(3, 5, 1)", Check.samples(x), 1, 4, 7, 6, 9, 12);
        x.wash(-4, 0, 3);
        Check.due("wash(-4, 0, 3)", Check.samples(x), 4, 3, 2, 9, 8, 7);
        x.wash(0, -9, 0);
        Check.due("wash(0, -9, 0)", Check.samples(x), 4, 3, 2, 0, 15, 14);
        Check.due("shape stays", x.shape(), 4003002);
        x.begin(3, 1, 1);
        x.wash(1, 0, 0);
        Check.due("depth 1", Check.samples(x), 0, 1, 0);
        x.begin(3, 1, 2);
        x.wash(3, 0, 0);
        Check.due("depth 2", Check.samples(x), 0, 3, 2);
    }

    /** Sums far outside int keep their remainder. */
    private static void washingExactly() {
        int[] numbers = {0, 1, -1, 7, 255, 256, -256, 1000003, LEAST, MOST, LEAST + 1, MOST - 1};
        for (int a : numbers) {
            for (int b : numbers) {
                for (int c : numbers) {
                    TaggedRaster x = new TaggedRaster();
                    x.begin(16, 16, 8);
                    x.fill(0, 0, 16, 16, 200);
                    x.wash(a, b, c);
                    int[] due = new int[256];
                    for (int k = 0; k < 256; k++) {
                        long sum = 200L + (long) a * (k % 16) + (long) b * (k / 16) + c;
                        due[k] = (int) Math.floorMod(sum, 256L);
                    }
                    Check.due("wash(" + a + ", " + b + ", " + c + ")", Check.samples(x), due);
                }
            }
        }
    }

    private static void sampling() {
        TaggedRaster x = new TaggedRaster();
        Check.picture(x, 3, 2, 2, 0, 1, 2, 3, 2, 1);
        Check.due("sample(2, 0)", x.sample(2, 0), 2);
        Check.due("sample(0, 1)", x.sample(0, 1), 3);
        int[][] none = {{3, 0}, {0, 2}, {-1, 0}, {0, -1}, {16, 0}, {LEAST, 0}, {MOST, MOST}, {3, -1}, {-1, 1}};
        for (int[] p : none) {
            Check.due("sample(" + p[0] + ", " + p[1] + ")", x.sample(p[0], p[1]), -1);
        }
        x.begin(16, 16, 1);
        x.fill(0, 0, 16, 16, 1);
        x.begin(2, 2, 1);
        Check.due("a sample of an earlier, greater picture", x.sample(2, 2), -1);
    }
}
