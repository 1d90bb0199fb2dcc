/** The edges of LABELS, and of promises 11 and 12: each method stands for the sentence above it. */
public final class LabelEdgesTest {
    private static final int LEAST = Integer.MIN_VALUE;
    private static final int MOST = Integer.MAX_VALUE;

    public static void main(String[] args) {
        tags();
        characters();
        oneToTwelveCharacters();
        atMostTwo();
        fullLabelsBothWays();
        onlyTheLabels();
        unlabelNoneOneTwo();
        unlabelForgets();
        Check.end();
    }

    private static void refused(Run before, int tag, int c) {
        before.refuses("label(" + tag + ", " + c + ")", x -> x.label(tag, c));
    }

    /** The texts that a run's labels write, one behind the other, each with its tag in front. */
    private static void are(String what, Run run, String due) {
        TaggedRaster x = run.object();
        x.clear(true);
        x.begin(1, 1, 1);
        Check.due(what + ": write", x.write(1, 1, 1) > 0, true);
        StringBuilder texts = new StringBuilder();
        int directory = x.byteAt(7);
        for (int entry = 8; entry < x.byteAt(directory + 1); entry++) {
            int at = directory + 2 + 12 * entry;
            int tag = x.byteAt(at) * 256 + x.byteAt(at + 1);
            texts.append(tag).append(':');
            for (int k = 0; k < x.fieldCount(0, tag) - 1; k++) {
                texts.append((char) x.field(0, tag, k));
            }
            texts.append(' ');
        }
        Check.due(what + ": " + texts + "against " + due, texts.toString().equals(due), true);
    }

    /** "False, changing nothing, when the tag is not 32768 .. 65535". */
    private static void tags() {
        for (int tag : new int[] {32768, 32769, 65534, 65535}) {
            are("tag " + tag, Run.start().takes("label(" + tag + ", 65)", x -> x.label(tag, 65)), tag + ":A ");
        }
        Run[] befores = {Run.start(), Run.start().text(40000, "ab"), Run.start().text(65535, "a").text(32768, "b"),
            Run.two(true).text(40000, "abcdefghijkl")};
        for (Run before : befores) {
            for (int tag : new int[] {32767, 65536, 0, 1, 256, -1, -32768, -25536, 65536 + 40000, 98304, 131071, LEAST,
                LEAST + 32768, MOST}) {
                refused(before, tag, 65);
                refused(before, tag, 0);
            }
        }
    }

    /** "c is not 1 .. 127". */
    private static void characters() {
        for (int c = 1; c <= 127; c++) {
            int character = c;
            are("character " + c, Run.start().text(40000, "a").takes("label(40000, " + c + ")", x -> x.label(40000, character)),
                    "40000:a" + (char) c + " ");
        }
        Run[] befores = {Run.start(), Run.start().text(40000, "ab"), Run.start().text(40000, "a").text(32768, "b"),
            Run.two(true).text(40000, "abcdefghijkl")};
        for (Run before : befores) {
            for (int c : new int[] {0, 128, 129, 255, 256, 257, -1, -127, -128, 65536 + 65, LEAST, LEAST + 65, MOST}) {
                refused(before, 40000, c);
                refused(before, 50000, c);
            }
        }
        Check.due("a refused character begins no label", Run.start().then(x -> x.label(40000, 0)).object().unlabel(), 0);
        Check.due("nor does one too great", Run.start().then(x -> x.label(40000, 128)).object().unlabel(), 0);
    }

    /** "texts of 1 to 12 characters"; "the label has 12 characters". */
    private static void oneToTwelveCharacters() {
        Run run = Run.start();
        String text = "";
        for (int n = 1; n <= 12; n++) {
            char c = (char) ('a' + n);
            text += c;
            run = run.takes("character " + n, x -> x.label(40000, c));
            are(n + " characters", run, "40000:" + text + " ");
        }
        refused(run, 40000, 'z');
        refused(run, 40000, 1);
        refused(run.then(x -> x.label(40000, 'z')), 40000, 127);
    }

    /** "at most two texts, each with a tag of its own"; "there is none with that tag and two others are there". */
    private static void atMostTwo() {
        Run one = Run.start().text(50000, "a");
        Run two = one.takes("a second label", x -> x.label(40000, 'b'));
        are("two labels, the lower tag first", two, "40000:b 50000:a ");
        for (int tag : new int[] {32768, 39999, 40001, 45000, 49999, 50001, 65535}) {
            refused(two, tag, 'c');
        }
        are("the first grows", two.takes("a character more", x -> x.label(50000, 'd')), "40000:b 50000:ad ");
        are("the second grows", two.takes("a character more", x -> x.label(40000, 'd')), "40000:bd 50000:a ");
        are("one tag twice is one label", one.takes("the same tag", x -> x.label(50000, 'e')), "50000:ae ");
        Check.due("their number", one.then(x -> x.label(50000, 'e')).object().unlabel(), 1);
        are("neighbouring tags", Run.start().text(65535, "x").text(65534, "y"), "65534:y 65535:x ");
        are("the least and the greatest tag", Run.start().text(32768, "x").text(65535, "y"), "32768:x 65535:y ");
    }

    /** A full label refuses its own characters alone; two full ones refuse all. */
    private static void fullLabelsBothWays() {
        Run first = Run.start().text(40000, "abcdefghijkl");
        Run both = first.takes("a second beside a full one", x -> x.label(50000, 'A'));
        are("a full one and a short one", both, "40000:abcdefghijkl 50000:A ");
        refused(both, 40000, 'm');
        refused(both, 45000, 'm');
        Run second = both.text(50000, "BCDEFGHIJKL");
        are("two full ones", second, "40000:abcdefghijkl 50000:ABCDEFGHIJKL ");
        refused(second, 40000, 'm');
        refused(second, 50000, 'M');
        refused(second, 45000, 'm');
        Run mixed = Run.start().text(40000, "a").text(50000, "A").text(40000, "bcdefghijk").text(50000, "BCDEFGHIJKL").text(40000, "l");
        are("grown in turns", mixed, "40000:abcdefghijkl 50000:ABCDEFGHIJKL ");
        refused(mixed, 40000, 'm');
        refused(mixed, 50000, 'M');
    }

    /** Promise 11 says nothing of file and picture: they stay. */
    private static void onlyTheLabels() {
        Run before = Run.two(false).washed(5, 4, 8);
        Run after = before.text(40000, "abc").text(50000, "abcdefghijkl");
        after.fileAs("label", before);
        after.pictureAs("label", before);
        Run gone = after.takes("unlabel()", TaggedRaster::unlabel, 2);
        gone.fileAs("unlabel", before);
        gone.pictureAs("unlabel", before);
        gone.labelsAs("unlabel", before);
    }

    /** Promise 12: "answers how many there were". */
    private static void unlabelNoneOneTwo() {
        Run none = Run.start();
        none.refuses("unlabel() of none", TaggedRaster::unlabel, 0);
        Run one = none.text(40000, "a").takes("unlabel() of one", TaggedRaster::unlabel, 1);
        one.refuses("then of none", TaggedRaster::unlabel, 0);
        Run two = one.text(40000, "abcdefghijkl").text(32768, "b").takes("unlabel() of two", TaggedRaster::unlabel, 2);
        two.refuses("then of none", TaggedRaster::unlabel, 0);
        Check.due("a third that was refused does not count",
                Run.start().text(40000, "a").text(50000, "b").then(x -> x.label(60000, 'c')).object().unlabel(), 2);
        Check.due("a page written does not take them", Run.start().text(40000, "a").page(1, 1, 1).object().unlabel(), 1);
    }

    /** Promise 12: "Takes all labels away", texts and tags. */
    private static void unlabelForgets() {
        Run empty = Run.start().text(40000, "abcdefghijkl").text(50000, "ABCDEFGHIJKL").takes("unlabel()", TaggedRaster::unlabel, 2);
        are("none", empty, "");
        are("the same tag again", empty.text(40000, "z"), "40000:z ");
        are("the other tag again", empty.text(50000, "y"), "50000:y ");
        are("other tags", empty.text(33000, "x").text(34000, "w"), "33000:x 34000:w ");
        Run again = empty.text(50000, "ABCDEFGHIJKL").text(40000, "abcdefghijkl");
        are("full again", again, "40000:abcdefghijkl 50000:ABCDEFGHIJKL ");
        refused(again, 50000, 'M');
        refused(again, 40001, 'M');
    }
}
