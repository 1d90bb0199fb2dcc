import java.util.ArrayList;
import java.util.List;
import java.util.function.Consumer;
import java.util.function.Predicate;
import java.util.function.ToLongFunction;

/**
 * A run of calls on a new object that can be told again. Each look at what it leaves behind takes
 * objects of its own, for nothing is promised of an object behind its 512th call.
 */
final class Run {
    private static final int LOOK = 120;
    private final List<Consumer<TaggedRaster>> calls;

    private Run(List<Consumer<TaggedRaster>> calls) {
        this.calls = calls;
    }

    static Run start() {
        return new Run(List.of());
    }

    Run then(Consumer<TaggedRaster> call) {
        List<Consumer<TaggedRaster>> more = new ArrayList<>(calls);
        more.add(call);
        return new Run(more);
    }

    Run clear(boolean greatest) {
        return then(x -> x.clear(greatest));
    }

    Run picture(int w, int h, int d, int... samples) {
        return then(x -> Check.picture(x, w, h, d, samples));
    }

    /** A picture whose samples are not all alike. */
    Run washed(int w, int h, int d) {
        return then(x -> {
            Check.due("begin", x.begin(w, h, d), true);
            x.wash(37, 101, 1);
        });
    }

    Run text(int tag, String text) {
        return then(x -> Check.text(x, tag, text));
    }

    Run page(int compression, int rowsAStrip, int predictor) {
        return then(x -> Check.due("write", x.write(compression, rowsAStrip, predictor) > 0, true));
    }

    Run poke(int place, int... bytes) {
        return then(x -> {
            for (int k = 0; k < bytes.length; k++) {
                Check.due("poke", x.poke(place + k, bytes[k]), true);
            }
        });
    }

    /** A file of 724 bytes, two plain pages: 176 bytes more make 900. */
    static Run two(boolean greatest) {
        return start().clear(greatest).washed(16, 16, 8).page(1, 16, 1).page(1, 16, 1);
    }

    /** A file of 900 bytes, two great pages and a small one. */
    static Run full(boolean greatest) {
        return two(greatest).washed(8, 7, 8).text(40000, "abcde").page(1, 7, 1);
    }

    TaggedRaster object() {
        TaggedRaster x = new TaggedRaster();
        for (Consumer<TaggedRaster> call : calls) {
            call.accept(x);
        }
        return x;
    }

    int[] file() {
        int[] bytes = new int[object().length()];
        for (int from = 0; from < bytes.length; from += LOOK) {
            TaggedRaster x = object();
            for (int k = from; k < Math.min(from + LOOK, bytes.length); k++) {
                bytes[k] = x.byteAt(k);
            }
        }
        return bytes;
    }

    int[] file(int from, int to) {
        return Check.file(object(), from, to);
    }

    int[] samples() {
        int shape = object().shape();
        int columns = shape / 1000 % 1000;
        int[] samples = new int[columns * (shape % 1000)];
        for (int from = 0; from < samples.length; from += LOOK) {
            TaggedRaster x = object();
            for (int k = from; k < Math.min(from + LOOK, samples.length); k++) {
                samples[k] = x.sample(k % columns, k / columns);
            }
        }
        return samples;
    }

    /** The file that the labels make with the smallest picture: equal labels make equal files. */
    int[] labels() {
        TaggedRaster x = object();
        x.clear(false);
        x.begin(1, 1, 1);
        x.write(1, 1, 1);
        return Check.file(x);
    }

    /** The call answers as due; the run goes on behind it. */
    Run takes(String what, ToLongFunction<TaggedRaster> call, long due) {
        Check.due(what, call.applyAsLong(object()), due);
        return then(call::applyAsLong);
    }

    Run takes(String what, Predicate<TaggedRaster> call) {
        return takes(what, x -> call.test(x) ? 1 : 0, 1);
    }

    /** The call answers as due, and file, picture and labels are what they were. */
    void refuses(String what, ToLongFunction<TaggedRaster> call, long due) {
        Run after = takes(what, call, due);
        after.fileAs(what, this);
        after.pictureAs(what, this);
        after.labelsAs(what, this);
    }

    void refuses(String what, Predicate<TaggedRaster> call) {
        refuses(what, x -> call.test(x) ? 1 : 0, 0);
    }

    void fileAs(String what, Run other) {
        Check.due(what + ": the file", file(), other.file());
    }

    void pictureAs(String what, Run other) {
        Check.due(what + ": the shape", object().shape(), other.object().shape());
        Check.due(what + ": the samples", samples(), other.samples());
    }

    void labelsAs(String what, Run other) {
        Check.due(what + ": the labels", labels(), other.labels());
        Check.due(what + ": their number", object().unlabel(), other.object().unlabel());
    }
}
