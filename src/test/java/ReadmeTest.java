/** The example of README.md, call for call, with the answers that it names. */
public final class ReadmeTest {
    public static void main(String[] args) {
        TaggedRaster x = new TaggedRaster();
        Check.due("begin(5, 3, 4)", x.begin(5, 3, 4), true);
        x.wash(3, 5, 1);
        Check.due("label(40000, 'A')", x.label(40000, 'A'), true);
        Check.due("write(5, 3, 2)", x.write(5, 3, 2), 124);
        Check.due("begin(1, 1, 1)", x.begin(1, 1, 1), true);
        Check.due("load(0)", x.load(0), 0);
        Check.due("shape()", x.shape(), 4005003);
        Check.due("sample(4, 2)", x.sample(4, 2), 7);
        Check.due("field(0, 257, 0)", x.field(0, 257, 0), 3);
        Check.due("fieldCount(0, 40000)", x.fieldCount(0, 40000), 2);
        Check.due("load(1)", x.load(1), TaggedRaster.NO_PAGE);
        Check.due("poke(2, 0)", x.poke(2, 0), true);
        Check.due("sound()", x.sound(), false);
        Check.due("write(1, 1, 1)", x.write(1, 1, 1), TaggedRaster.UNSOUND);
        Check.end();
    }
}
