/** Promises 11 and 12: label, unlabel. */
public final class LabelTest {
    public static void main(String[] args) {
        wrongArguments();
        twelveCharacters();
        twoLabels();
        unlabelling();
        Check.end();
    }

    private static void wrongArguments() {
        TaggedRaster x = new TaggedRaster();
        int[][] wrong = {{32767, 65}, {65536, 65}, {-1, 65}, {0, 65}, {40000, 0}, {40000, 128}, {40000, -1},
            {Integer.MIN_VALUE, 65}, {Integer.MAX_VALUE, 65}, {40000, Integer.MAX_VALUE}, {40000, Integer.MIN_VALUE}};
        for (int[] w : wrong) {
            Check.due("label(" + w[0] + ", " + w[1] + ")", x.label(w[0], w[1]), false);
        }
        Check.due("no label was begun", x.unlabel(), 0);
        Check.due("label(32768, 1)", x.label(32768, 1), true);
        Check.due("label(65535, 127)", x.label(65535, 127), true);
        Check.due("a refused character of a label", x.label(32768, 128), false);
        Check.due("write", x.write(1, 1, 1) > 0, true);
        Check.due("the characters and a 0", x.fieldCount(0, 32768), 2);
        Check.due("the least tag and character", x.field(0, 32768, 0), 1);
        Check.due("the greatest tag and character", x.field(0, 65535, 0), 127);
    }

    private static void twelveCharacters() {
        TaggedRaster x = new TaggedRaster();
        Check.text(x, 40000, "abcdefghijkl");
        Check.due("a thirteenth character", x.label(40000, 'm'), false);
        Check.text(x, 40001, "ABCDEFGHIJKL");
        Check.due("a thirteenth character of the second label", x.label(40001, 'M'), false);
        x.write(1, 1, 1);
        Check.due("fieldCount(0, 40000)", x.fieldCount(0, 40000), 13);
        for (int k = 0; k < 13; k++) {
            Check.due("character " + k, x.field(0, 40000, k), k < 12 ? 'a' + k : 0);
            Check.due("character " + k + " of the second", x.field(0, 40001, k), k < 12 ? 'A' + k : 0);
        }
    }

    private static void twoLabels() {
        TaggedRaster x = new TaggedRaster();
        Check.text(x, 50000, "a");
        Check.text(x, 40000, "b");
        Check.due("a third label", x.label(45000, 'c'), false);
        Check.text(x, 50000, "d");
        Check.text(x, 40000, "e");
        x.write(1, 1, 1);
        Check.due("the first label grows", x.field(0, 50000, 1), 'd');
        Check.due("the second label grows", x.field(0, 40000, 1), 'e');
        Check.due("there is no third", x.fieldCount(0, 45000), -1);
        Check.due("write leaves the labels", x.unlabel(), 2);
    }

    private static void unlabelling() {
        TaggedRaster x = new TaggedRaster();
        Check.due("unlabel() of none", x.unlabel(), 0);
        Check.text(x, 40000, "abcdefghijkl");
        Check.due("unlabel() of one", x.unlabel(), 1);
        Check.due("unlabel() again", x.unlabel(), 0);
        Check.text(x, 40000, "z");
        Check.text(x, 33000, "y");
        Check.due("unlabel() of two", x.unlabel(), 2);
        Check.text(x, 40000, "q");
        x.write(1, 1, 1);
        Check.due("a label begun anew is empty first", x.fieldCount(0, 40000), 2);
        Check.due("its character", x.field(0, 40000, 0), 'q');
        Check.due("the other one is gone", x.fieldCount(0, 33000), -1);
        Check.due("picture stays", x.shape(), 1001001);
    }
}
