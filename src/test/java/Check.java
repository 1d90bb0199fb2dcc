import java.util.Arrays;

/** Compares answers with what is due, and ends a test with exit code 1 if one was wrong. */
final class Check {
    private static int wrong = 0;
    private static int seen = 0;

    private Check() {
    }

    static void due(String what, long got, long want) {
        seen++;
        if (got != want) {
            wrong++;
            System.out.println(what + " answered " + got + ", due is " + want);
        }
    }

    static void due(String what, boolean got, boolean want) {
        due(what, got ? 1 : 0, want ? 1 : 0);
    }

    static void due(String what, int[] got, int... want) {
        seen++;
        if (!Arrays.equals(got, want)) {
            wrong++;
            System.out.println(what + " answered " + Arrays.toString(got) + ", due is " + Arrays.toString(want));
        }
    }

    static int wrongSoFar() {
        return wrong;
    }

    static void end() {
        System.out.println(seen + " answers looked at, " + wrong + " wrong");
        if (wrong != 0) {
            System.exit(1);
        }
    }

    /** All bytes of the file, by the face alone. */
    static int[] file(TaggedRaster x) {
        return file(x, 0, x.length());
    }

    static int[] file(TaggedRaster x, int from, int to) {
        int[] bytes = new int[to - from];
        for (int k = 0; k < bytes.length; k++) {
            bytes[k] = x.byteAt(from + k);
        }
        return bytes;
    }

    /** All samples of the picture, row by row. */
    static int[] samples(TaggedRaster x) {
        int columns = x.shape() / 1000 % 1000;
        int rows = x.shape() % 1000;
        int[] samples = new int[columns * rows];
        for (int k = 0; k < samples.length; k++) {
            samples[k] = x.sample(k % columns, k / columns);
        }
        return samples;
    }

    static void text(TaggedRaster x, int tag, String text) {
        for (int k = 0; k < text.length(); k++) {
            due("label(" + tag + ", " + text.charAt(k) + ")", x.label(tag, text.charAt(k)), true);
        }
    }

    /** A picture of one row or more from its samples, row by row. */
    static void picture(TaggedRaster x, int w, int h, int d, int... samples) {
        due("begin", x.begin(w, h, d), true);
        for (int k = 0; k < samples.length; k++) {
            due("fill", x.fill(k % w, k / w, 1, 1, samples[k]), true);
        }
    }
}
