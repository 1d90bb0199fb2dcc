/** Promises 1 to 5: a new object, clear, length, byteAt, poke. */
public final class FileTest {
    public static void main(String[] args) {
        newObject();
        clearing();
        lengthAndByteAt();
        poking();
        Check.end();
    }

    private static void newObject() {
        TaggedRaster x = new TaggedRaster();
        Check.due("a new file", Check.file(x), 73, 73, 42, 0, 0, 0, 0, 0);
        Check.due("a new shape", x.shape(), 1001001);
        Check.due("a new sample", x.sample(0, 0), 0);
        Check.due("labels of a new object", x.unlabel(), 0);
        Check.due("pages of a new object", x.pages(), 0);
        Check.due("a new object is sound", x.sound(), true);
        TaggedRaster other = new TaggedRaster();
        other.poke(7, 9);
        other.fill(0, 0, 1, 1, 1);
        other.label(40000, 65);
        Check.due("objects share no file", x.byteAt(7), 0);
        Check.due("objects share no picture", x.sample(0, 0), 0);
        Check.due("objects share no labels", x.unlabel(), 0);
    }

    private static void clearing() {
        TaggedRaster x = new TaggedRaster();
        Check.picture(x, 2, 1, 2, 3, 1);
        Check.text(x, 50000, "ab");
        x.clear(true);
        Check.due("clear(true)", Check.file(x), 77, 77, 0, 42, 0, 0, 0, 0);
        Check.due("write(1, 1, 1)", x.write(1, 1, 1), 2 + 6 + 12 * 9);
        Check.due("pages() behind a write", x.pages(), 1);
        x.clear(true);
        Check.due("clear(true) behind a write", Check.file(x), 77, 77, 0, 42, 0, 0, 0, 0);
        Check.due("pages() behind clear", x.pages(), 0);
        x.write(1, 1, 1);
        x.clear(false);
        Check.due("clear(false)", Check.file(x), 73, 73, 42, 0, 0, 0, 0, 0);
        Check.due("sound() behind clear", x.sound(), true);
        Check.due("the picture stays", Check.samples(x), 3, 1);
        Check.due("the shape stays", x.shape(), 2002001);
        Check.due("the labels stay", x.unlabel(), 1);
        for (int place = 0; place < 8; place++) {
            x.poke(place, 255);
        }
        x.clear(false);
        Check.due("clear behind pokes", Check.file(x), 73, 73, 42, 0, 0, 0, 0, 0);
    }

    private static void lengthAndByteAt() {
        TaggedRaster x = new TaggedRaster();
        Check.due("length()", x.length(), 8);
        Check.due("byteAt(7)", x.byteAt(7), 0);
        Check.due("byteAt(8)", x.byteAt(8), -1);
        Check.due("byteAt(-1)", x.byteAt(-1), -1);
        Check.due("byteAt(least)", x.byteAt(Integer.MIN_VALUE), -1);
        Check.due("byteAt(greatest)", x.byteAt(Integer.MAX_VALUE), -1);
        int grown = x.write(1, 1, 1);
        Check.due("length() behind a write", x.length(), 8 + grown);
        Check.due("byteAt(length() - 1)", x.byteAt(x.length() - 1), 0);
        Check.due("byteAt(length())", x.byteAt(x.length()), -1);
        x.begin(16, 16, 8);
        while (x.write(1, 16, 1) > 0) {
            Check.due("length() stays within 900", x.length() <= 900, true);
        }
        Check.due("byteAt(length()) of a full file", x.byteAt(x.length()), -1);
        Check.due("byteAt(900)", x.byteAt(900), -1);
    }

    private static void poking() {
        TaggedRaster x = new TaggedRaster();
        Check.due("poke(0, 255)", x.poke(0, 255), true);
        Check.due("poke(7, 0)", x.poke(7, 0), true);
        Check.due("poke(7, 1)", x.poke(7, 1), true);
        int[] poked = {255, 73, 42, 0, 0, 0, 0, 1};
        Check.due("the poked file", Check.file(x), poked);
        Check.due("poke(8, 0)", x.poke(8, 0), false);
        Check.due("poke(-1, 0)", x.poke(-1, 0), false);
        Check.due("poke(least, 0)", x.poke(Integer.MIN_VALUE, 0), false);
        Check.due("poke(greatest, 0)", x.poke(Integer.MAX_VALUE, 0), false);
        Check.due("poke(3, 256)", x.poke(3, 256), false);
        Check.due("poke(3, -1)", x.poke(3, -1), false);
        Check.due("poke(3, least)", x.poke(3, Integer.MIN_VALUE), false);
        Check.due("poke(900, 1)", x.poke(900, 1), false);
        Check.due("the file behind refused pokes", Check.file(x), poked);
        Check.due("length() behind pokes", x.length(), 8);
    }
}
