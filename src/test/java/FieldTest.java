/** Promises 17 and 18: field, fieldCount. */
public final class FieldTest {
    public static void main(String[] args) {
        for (int order = 0; order < 2; order++) {
            writtenFields(order == 1);
            kindsWithinFourBytes(order == 1);
            kindsElsewhere(order == 1);
            atTheEnds(order == 1);
            behindTheEntries(order == 1);
            broken(order == 1);
            firstOfEqualTags(order == 1);
        }
        noSuch();
        behindBrokenWalk();
        Check.end();
    }

    private static void is(String what, TaggedRaster x, int tag, long... values) {
        Check.due(what + ": fieldCount", x.fieldCount(0, tag), values.length);
        for (int k = 0; k < values.length; k++) {
            Check.due(what + ": value " + k, x.field(0, tag, k), values[k]);
        }
        Check.due(what + ": the value behind the last", x.field(0, tag, values.length), -1);
        Check.due(what + ": value -1", x.field(0, tag, -1), -1);
        Check.due(what + ": value least", x.field(0, tag, Integer.MIN_VALUE), -1);
        Check.due(what + ": value greatest", x.field(0, tag, Integer.MAX_VALUE), -1);
    }

    private static void none(String what, TaggedRaster x, int page, int tag) {
        Check.due(what + ": fieldCount", x.fieldCount(page, tag), -1);
        Check.due(what + ": field", x.field(page, tag, 0), -1);
    }

    private static void writtenFields(boolean greatest) {
        TaggedRaster x = new TaggedRaster();
        x.clear(greatest);
        x.begin(9, 5, 4);
        Check.text(x, 60000, "hello");
        Check.text(x, 33333, "abc");
        x.write(32773, 2, 2);
        is("columns", x, 256, 9);
        is("rows", x, 257, 5);
        is("depth", x, 258, 4);
        is("compression", x, 259, 32773);
        is("places", x, 273, 8, 12, 16);
        is("rows a strip", x, 278, 2);
        is("lengths", x, 279, 4, 4, 2);
        is("predictor", x, 317, 2);
        is("short text", x, 33333, 'a', 'b', 'c', 0);
        is("long text", x, 60000, 'h', 'e', 'l', 'l', 'o', 0);
    }

    private static void kindsWithinFourBytes(boolean greatest) {
        Forge f = new Forge(greatest);
        int four = Forge.entry(0) + 8;
        f.poke(four, 200).poke(four + 1, 1).poke(four + 2, 255).poke(four + 3, 128);
        f.kind(0, 1).count(0, 1);
        is("one BYTE", f.x, 256, 200);
        f.count(0, 4);
        is("four BYTEs", f.x, 256, 200, 1, 255, 128);
        f.kind(0, 2).count(0, 3);
        is("three of TEXT", f.x, 256, 200, 1, 255);
        f.kind(0, 3).count(0, 1);
        is("one SHORT", f.x, 256, greatest ? 200 * 256 + 1 : 200 + 256);
        f.count(0, 2);
        is("two SHORTs", f.x, 256, greatest ? 200 * 256 + 1 : 200 + 256,
                greatest ? 255 * 256 + 128 : 255 + 128 * 256);
        f.kind(0, 4).count(0, 1).numberLong(0, 0xfffefdfcL);
        is("one LONG", f.x, 256, 0xfffefdfcL);
    }

    private static void kindsElsewhere(boolean greatest) {
        Forge f = new Forge(greatest);
        f.poke(9, 250).poke(10, 251).poke(11, 252).poke(12, 253).poke(13, 254);
        f.kind(0, 1).count(0, 5).numberLong(0, 9);
        is("five BYTEs at an odd place", f.x, 256, 250, 251, 252, 253, 254);
        f.kind(0, 2);
        is("five of TEXT", f.x, 256, 250, 251, 252, 253, 254);
        f.kind(0, 3).count(0, 3).putShort(9, 65535).putShort(11, 1).putShort(13, 513);
        is("three SHORTs", f.x, 256, 65535, 1, 513);
        f.kind(0, 4).count(0, 2).putLong(9, 0xffffffffL).putLong(13, 0x80000001L);
        is("two LONGs", f.x, 256, 0xffffffffL, 0x80000001L);
        f.kind(0, 1).count(0, 8).numberLong(0, 0);
        int mark = greatest ? 77 : 73;
        is("values in the header", f.x, 256, mark, mark, greatest ? 0 : 42, greatest ? 42 : 0,
                f.x.byteAt(4), f.x.byteAt(5), f.x.byteAt(6), f.x.byteAt(7));
    }

    /** The first and the last bytes of the file as SHORTs and LONGs; the last ones break the walk off behind. */
    private static void atTheEnds(boolean greatest) {
        Forge f = new Forge(greatest);
        f.kind(0, 3).count(0, 3).numberLong(0, 0);
        is("SHORTs from place 0 on", f.x, 256, greatest ? 77 * 257 : 73 * 257, 42, greatest ? 0 : 264);
        f.poke(Forge.LENGTH - 4, 1).poke(Forge.LENGTH - 3, 2).poke(Forge.LENGTH - 2, 3).poke(Forge.LENGTH - 1, 5);
        f.numberLong(0, Forge.LENGTH - 6);
        is("SHORTs up to the end", f.x, 256, 0, greatest ? 258 : 513, greatest ? 773 : 1283);
        f.kind(0, 4).count(0, 2).numberLong(0, Forge.LENGTH - 8);
        is("LONGs up to the end", f.x, 256, greatest ? 0x10000 : 1, greatest ? 0x01020305 : 0x05030201);
    }

    /** The LONG behind the entries begins with a SHORT that is no tag. */
    private static void behindTheEntries(boolean greatest) {
        Forge f = new Forge(greatest);
        f.putShort(Forge.entry(8), 999);
        none("no entry behind the last one", f.x, 0, 999);
        f.putShort(Forge.DIRECTORY, 7);
        none("317 is behind seven entries", f.x, 0, 317);
        Check.due("279 is among them", f.x.fieldCount(0, 279), 1);
    }

    private static void broken(boolean greatest) {
        Forge f = new Forge(greatest);
        for (int kind : new int[] {0, 5, 6, 255, 256, 259, 768, 1024, 65535}) {
            f.kind(0, kind);
            none("kind " + kind, f.x, 0, 256);
        }
        for (int kind = 1; kind <= 4; kind++) {
            f.kind(0, kind).count(0, 0);
            none("count 0 of kind " + kind, f.x, 0, 256);
            int size = kind < 3 ? 1 : kind == 3 ? 2 : 4;
            int n = 8 / size;
            f.count(0, n).numberLong(0, Forge.LENGTH - 8);
            Check.due("up to the last byte", f.x.fieldCount(0, 256), n);
            Check.due("the last value", f.x.field(0, 256, n - 1), 0);
            f.numberLong(0, Forge.LENGTH - 7);
            none("behind the last byte, kind " + kind, f.x, 0, 256);
            f.numberLong(0, 0xffffffffL);
            none("a place far outside, kind " + kind, f.x, 0, 256);
            f.count(0, 0xffffffffL).numberLong(0, 8);
            none("very many values of kind " + kind, f.x, 0, 256);
            f.count(0, 0x40000000L);
            none("a multiple of 2^30 of kind " + kind, f.x, 0, 256);
            f.count(0, 0x80000001L);
            none("just above 2^31 of kind " + kind, f.x, 0, 256);
            f.count(0, Forge.LENGTH / size).numberLong(0, 0);
            Check.due("the whole file", f.x.fieldCount(0, 256), Forge.LENGTH / size);
            f.count(0, Forge.LENGTH / size + 1);
            none("more than the file", f.x, 0, 256);
        }
    }

    private static void firstOfEqualTags(boolean greatest) {
        Forge f = new Forge(greatest);
        f.tag(5, 256).number(5, 99);
        is("the first of two", f.x, 256, 16);
        f.kind(0, 9);
        none("the first of two is broken", f.x, 0, 256);
        f.tag(0, 65535).kind(0, 3);
        is("the other one when the tag is alone", f.x, 256, 99);
        is("tag 65535", f.x, 65535, 16);
        f.tag(0, 0);
        is("tag 0", f.x, 0, 16);
    }

    private static void noSuch() {
        TaggedRaster x = new TaggedRaster();
        none("no page at all", x, 0, 256);
        x.write(1, 1, 1);
        none("page 1 of one", x, 1, 256);
        none("page -1", x, -1, 256);
        none("page least", x, Integer.MIN_VALUE, 256);
        none("page greatest", x, Integer.MAX_VALUE, 256);
        none("a tag that is missing", x, 0, 260);
        for (int tag : new int[] {-1, 65536 + 256, 256 - 65536, Integer.MIN_VALUE, Integer.MAX_VALUE}) {
            none("tag " + tag, x, 0, tag);
        }
    }

    private static void behindBrokenWalk() {
        TaggedRaster x = new TaggedRaster();
        x.write(1, 1, 1);
        x.begin(2, 3, 4);
        x.write(1, 3, 1);
        int first = x.byteAt(4);
        x.poke(first + 98, 7);
        Check.due("the walk is broken off", x.sound(), false);
        is("a page before the break", x, 257, 1);
        none("a page behind the break", x, 1, 257);
        x.poke(first + 98, first + 102 + 4);
        Check.due("the walk is whole again", x.sound(), true);
        Check.due("a field of page 1", x.field(1, 257, 0), 3);
        x.poke(2, 41);
        none("no header", x, 0, 257);
    }
}
