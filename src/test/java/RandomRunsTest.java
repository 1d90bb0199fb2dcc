import java.util.ArrayDeque;
import java.util.ArrayList;
import java.util.Deque;
import java.util.List;

/** Long runs of calls drawn from a fixed row of numbers: the program and the model answer alike. */
public final class RandomRunsTest {
    private static final int RUNS = 2500;
    private static final int[] BYTES = {0, 1, 2, 3, 4, 5, 6, 7, 8, 9, 10, 16, 17, 18, 42, 61, 73, 77, 126, 127, 128, 129, 254, 255};
    private static final int[] TAGS = {256, 257, 258, 259, 273, 278, 279, 317};

    private final Draw draw;
    private final int run;
    private final TaggedRaster x = new TaggedRaster();
    private final Model m = new Model();
    private final Deque<int[]> undone = new ArrayDeque<>();
    private int calls = 0;

    private RandomRunsTest(int run) {
        this.run = run;
        this.draw = new Draw(run);
    }

    public static void main(String[] args) {
        int[] counts = new int[40];
        for (int run = 0; run < RUNS && Check.wrongSoFar() < 20; run++) {
            RandomRunsTest one = new RandomRunsTest(run);
            if (run % 4 == 3) {
                one.codes(counts);
            } else {
                one.all(counts);
            }
        }
        // The runs are worth something only if they come to all kinds of answers of load and write.
        for (int answer = 0; answer <= 8; answer++) {
            Check.due("answer " + -answer + " was met", counts[answer] > 0, true);
        }
        Check.end();
    }

    private void due(String call, long got, long want) {
        calls++;
        Check.due("run " + run + ", call " + calls + ": " + call, got, want);
    }

    private static long of(boolean b) {
        return b ? 1 : 0;
    }

    private void all(int[] counts) {
        int plan = draw.below(3);
        while (calls < 400) {
            int what = draw.below(100);
            if (what < 40) {
                pictureCall();
            } else if (what < 52) {
                write(counts);
            } else if (what < 66) {
                load(draw.below(20) == 0 ? draw.number() : draw.below(m.pages() + 1), counts);
            } else if (what < 80) {
                fieldCall();
            } else if (what < 97) {
                if (plan > 0) {
                    pokeCall(plan);
                }
            } else if (what == 97 && draw.below(3) == 0) {
                clear(draw.below(2) == 1);
            } else {
                walkCalls();
            }
        }
        compareState();
    }

    private void clear(boolean greatest) {
        calls++;
        x.clear(greatest);
        m.clear(greatest);
        undone.clear();
    }

    private void walkCalls() {
        due("pages()", x.pages(), m.pages());
        due("sound()", of(x.sound()), of(m.sound()));
        due("length()", x.length(), m.file.size());
    }

    private void pictureCall() {
        switch (draw.below(9)) {
            case 0: {
                int w = draw.near(1, 16);
                int h = draw.near(1, 16);
                int d = draw.below(12) == 0 ? draw.below(10) : 1 << draw.below(4);
                due("begin(" + w + ", " + h + ", " + d + ")", of(x.begin(w, h, d)), of(m.begin(w, h, d)));
                break;
            }
            case 1:
            case 2:
            case 3: {
                int px = draw.near(0, m.width() - 1);
                int py = draw.near(0, m.samples.length - 1);
                int w = draw.near(1, m.width() - px);
                int h = draw.near(1, m.samples.length - py);
                int v = draw.near(0, (1 << m.depth) - 1);
                due("fill(" + px + ", " + py + ", " + w + ", " + h + ", " + v + ")",
                        of(x.fill(px, py, w, h, v)), of(m.fill(px, py, w, h, v)));
                break;
            }
            case 4:
            case 5: {
                int a = draw.number();
                int b = draw.number();
                int c = draw.number();
                calls++;
                x.wash(a, b, c);
                m.wash(a, b, c);
                break;
            }
            case 6: {
                int px = draw.near(0, m.width() - 1);
                int py = draw.near(0, m.samples.length - 1);
                due("sample(" + px + ", " + py + ")", x.sample(px, py), m.sample(px, py));
                break;
            }
            case 7: {
                int tag = draw.below(10) == 0 ? draw.near(32768, 65535) : draw.pick(32768, 40000, 65535);
                int c = draw.near(1, 127);
                due("label(" + tag + ", " + c + ")", of(x.label(tag, c)), of(m.label(tag, c)));
                break;
            }
            default:
                due("shape()", x.shape(), m.shape());
                if (draw.below(4) == 0) {
                    due("unlabel()", x.unlabel(), m.unlabel());
                }
        }
    }

    private void write(int[] counts) {
        int compression = draw.below(15) == 0 ? draw.number() : draw.pick(1, 5, 32773);
        int rows = draw.near(1, m.samples.length);
        int predictor = draw.below(20) == 0 ? draw.below(5) - 1 : 1 + draw.below(2);
        long want = m.write(compression, rows, predictor);
        due("write(" + compression + ", " + rows + ", " + predictor + ")", x.write(compression, rows, predictor), want);
        count(counts, want);
    }

    private void load(int page, int[] counts) {
        long want = m.load(page);
        due("load(" + page + ")", x.load(page), want);
        count(counts, want);
    }

    private static void count(int[] counts, long answer) {
        counts[answer > 0 ? 39 : (int) -answer]++;
    }

    private void fieldCall() {
        int page = draw.near(0, Math.max(0, m.pages() - 1));
        int tag = draw.below(8) == 0 ? draw.number() : draw.below(4) == 0 ? draw.pick(32768, 40000, 65535)
                : TAGS[draw.below(TAGS.length)];
        int k = draw.below(3) == 0 ? draw.near(0, 16) : 0;
        due("field(" + page + ", " + tag + ", " + k + ")", x.field(page, tag, k), m.field(page, tag, k));
        due("fieldCount(" + page + ", " + tag + ")", x.fieldCount(page, tag), m.fieldCount(page, tag));
    }

    /** Pokes where it matters; many are taken back later, so that files stay readable. */
    private void pokeCall(int plan) {
        if (!undone.isEmpty() && draw.below(plan == 1 ? 2 : 3) == 0) {
            int[] back = undone.pop();
            poke(back[0], back[1]);
            return;
        }
        int place = place();
        int before = m.byteAt(place);
        int b = draw.below(3) == 0 ? before + draw.below(5) - 2
                : draw.below(2) == 0 ? BYTES[draw.below(BYTES.length)] : draw.below(256);
        if (before >= 0) {
            undone.push(new int[] {place, before});
        }
        poke(place, b);
        due("byteAt(" + place + ")", x.byteAt(place), m.byteAt(place));
        if (draw.below(2) == 0 && m.pages() > 0) {
            load(draw.below(m.pages()), new int[40]);
        }
    }

    private int place() {
        List<Integer> met = m.directories();
        int what = draw.below(12);
        if (what == 0) {
            return draw.near(0, 7);
        }
        if (what < 8 && !met.isEmpty()) {
            int directory = met.get(draw.below(met.size()));
            return directory + draw.below(2 + 12 * 8 + 4);
        }
        return draw.near(0, m.file.size() - 1);
    }

    private void poke(int place, int b) {
        due("poke(" + place + ", " + b + ")", of(x.poke(place, b)), of(m.poke(place, b)));
    }

    private void compareState() {
        due("shape() at the end", x.shape(), m.shape());
        due("length() at the end", x.length(), m.file.size());
        while (calls < 500) {
            int place = draw.below(m.file.size());
            due("byteAt(" + place + ")", x.byteAt(place), m.byteAt(place));
            int px = draw.below(m.width());
            int py = draw.below(m.samples.length);
            due("sample(" + px + ", " + py + ")", x.sample(px, py), m.sample(px, py));
        }
    }

    /** A page by compression 5 whose strip is a row of drawn codes, right or a little wrong. */
    private void codes(int[] counts) {
        clear(draw.below(2) == 1);
        due("begin", of(x.begin(16, 16, 8)), of(m.begin(16, 16, 8)));
        due("write", x.write(1, 16, 1), m.write(1, 16, 1));
        int w = draw.near(1, 16);
        int h = 1 + draw.below(16);
        w = Math.max(1, Math.min(16, w));
        int[] bytes = Codes.bytes(drawnCodes(2 * w * h));
        int n = Math.min(bytes.length, 250);
        for (int k = 0; k < n; k++) {
            poke(8 + k, bytes[k]);
        }
        int low = m.byteAt(0) == 73 ? 0 : 1;
        int four = m.byteAt(0) == 73 ? 0 : 3;
        poke(264 + 2 + 8 + low, w);
        poke(264 + 2 + 12 + 8 + low, h);
        poke(264 + 2 + 36 + 8 + low, 5);
        poke(264 + 2 + 72 + 8 + four, n);
        poke(264 + 2 + 72 + 8 + (four == 0 ? 1 : 2), 0);
        load(0, counts);
        for (int tries = 0; tries < 10; tries++) {
            int place = 8 + draw.below(n);
            int before = m.byteAt(place);
            poke(place, before ^ (1 << draw.below(8)));
            load(0, counts);
            if (draw.below(3) > 0) {
                poke(place, before);
            }
        }
        compareState();
    }

    private int[] drawnCodes(int due) {
        List<Integer> codes = new ArrayList<>();
        if (draw.below(5) > 0) {
            codes.add(16);
        }
        List<Integer> sizes = new ArrayList<>();
        int given = 0;
        int singles = 1 + draw.below(10);
        while (given < due) {
            if (draw.below(150) == 0) {
                codes.add(16);
                sizes.clear();
            }
            // Code 17 + j has one nibble more than code number j; the newest is often drawn.
            int known = Math.min(sizes.size(), 109);
            int j = known == 0 ? 0 : draw.below(3) == 0 ? known : 1 + draw.below(known);
            int size = j == 0 ? 1 : sizes.get(j - 1) + 1;
            if (j == 0 || given + size > due || draw.below(10) < singles) {
                codes.add(draw.below(16));
                size = 1;
            } else {
                codes.add(17 + j);
            }
            sizes.add(size);
            given += size;
        }
        if (draw.below(20) > 0) {
            codes.add(17);
        }
        return codes.stream().mapToInt(Integer::intValue).toArray();
    }

    /** Always the same numbers for the same run. */
    private static final class Draw {
        private long state;

        Draw(long seed) {
            state = seed * 0x9E3779B97F4A7C15L + 12345;
        }

        int below(int bound) {
            state = state * 6364136223846793005L + 1442695040888963407L;
            return (int) ((state >>> 33) % bound);
        }

        /** Mostly within, seldom one outside, very seldom far away. */
        int near(int least, int most) {
            int what = below(60);
            if (what == 0) {
                return least - 1;
            }
            if (what == 1) {
                return most + 1;
            }
            if (what == 2) {
                return number();
            }
            return most < least ? least : least + below(most - least + 1);
        }

        int number() {
            switch (below(8)) {
                case 0:
                    return Integer.MIN_VALUE + below(3);
                case 1:
                    return Integer.MAX_VALUE - below(3);
                case 2:
                    return (below(65536) << 16) ^ below(65536);
                default:
                    return below(600) - 100;
            }
        }

        int pick(int a, int b, int c) {
            int what = below(3);
            return what == 0 ? a : what == 1 ? b : c;
        }
    }
}
