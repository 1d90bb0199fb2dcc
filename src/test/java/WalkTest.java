/** Promises 14 and 15: pages, sound. */
public final class WalkTest {
    public static void main(String[] args) {
        headers();
        standing(false);
        standing(true);
        rings();
        eightPages();
        ninthPlace();
        Check.end();
    }

    private static void is(String what, TaggedRaster x, int pages, boolean sound) {
        Check.due(what + ": pages()", x.pages(), pages);
        Check.due(what + ": sound()", x.sound(), sound);
        Check.due(what + ": load of the page behind the last", x.load(pages), TaggedRaster.NO_PAGE);
        Check.due(what + ": a field there", x.fieldCount(pages, 256), -1);
    }

    private static void headers() {
        for (int order = 0; order < 2; order++) {
            boolean greatest = order == 1;
            int mark = greatest ? 77 : 73;
            TaggedRaster x = new TaggedRaster();
            x.clear(greatest);
            is("no directory", x, 0, true);
            x.write(1, 1, 1);
            is("one page", x, 1, true);
            for (int place = 0; place < 4; place++) {
                int before = x.byteAt(place);
                for (int b : new int[] {0, 1, 42, 72, 73, 74, 76, 77, 78, 255}) {
                    x.poke(place, b);
                    is("byte " + place + " is " + b, x, b == before ? 1 : 0, b == before);
                }
                x.poke(place, before);
            }
            x.poke(0, 150 - mark);
            x.poke(1, 150 - mark);
            is("the other order's mark", x, 0, false);
            x.poke(0, 42);
            x.poke(1, 42);
            is("both bytes equal but no mark", x, 0, false);
        }
    }

    private static void standing(boolean greatest) {
        Forge f = new Forge(greatest);
        f.putLong(4, 0);
        is("the first place is 0", f.x, 0, true);
        for (long place : new long[] {1, 2, 4, 6, 7, 9, 263, 265, 364, 365, 366, 368, 900, 0x7fffffffL, 0x80000000L,
            0xfffffffeL, 0xffffffffL, 65536L + 264, (1L << 24) + 264}) {
            f.putLong(4, place);
            is("the first place is " + place, f.x, 0, false);
        }
        f.putLong(4, 21).putShort(21, 1);
        is("a directory at an odd place", f.x, 0, false);
        f.putLong(4, 264).putShort(21, 0);
        is("the first place is 264", f.x, 1, true);
        f.putShort(264, 0);
        is("no entries", f.x, 0, false);
        f.putShort(264, 9);
        is("an entry too many", f.x, 0, false);
        f.putShort(264, 65535);
        is("65535 entries", f.x, 0, false);
        f.putShort(264, 1);
        f.putLong(264 + 14, 0);
        is("one entry", f.x, 1, true);
        f.putLong(264 + 14, 8);
        is("no entries at 8", f.x, 1, false);
        f.putShort(8, 1);
        is("a directory at 8", f.x, 2, true);
        f.putLong(8 + 14, 348);
        f.putShort(348, 1);
        f.putLong(348 + 14, 0);
        is("a directory up to the last byte", f.x, 3, true);
        f.putLong(8 + 14, 350);
        f.putShort(350, 1);
        is("a directory that ends behind the file", f.x, 2, false);
        f.putLong(8 + 14, 364);
        f.putShort(364, 1);
        is("nothing but a number of entries", f.x, 2, false);
        f.putLong(4, 10).putShort(10, 0);
        is("no directory at all", f.x, 0, false);
    }

    private static void rings() {
        Forge f = new Forge(false);
        int link = Forge.entry(8);
        f.putLong(link, Forge.DIRECTORY);
        is("a directory that leads to itself", f.x, 1, false);
        f.putShort(8, 1).putLong(8 + 14, Forge.DIRECTORY).putLong(link, 8);
        is("a ring of two", f.x, 2, false);
        Check.due("a page of a ring", f.x.fieldCount(0, 256), 1);
        f.putLong(4, 8).putShort(40, 1).putLong(link, 40).putLong(40 + 14, Forge.DIRECTORY);
        is("a ring behind a way in", f.x, 3, false);
    }

    private static void eightPages() {
        TaggedRaster x = chain(8);
        is("eight", x, 8, true);
        x = chain(7);
        is("seven", x, 7, true);
    }

    private static void ninthPlace() {
        TaggedRaster x = chain(9);
        Check.due("nine: pages()", x.pages(), 8);
        Check.due("nine: sound()", x.sound(), false);
        Check.due("nine: the eighth", x.fieldCount(7, 256), 1);
        Check.due("nine: the ninth", x.fieldCount(8, 256), -1);
        Check.due("nine: load(8)", x.load(8), TaggedRaster.NO_PAGE);
        Check.due("nine: write", x.write(1, 1, 1), TaggedRaster.UNSOUND);
    }

    /** Directories of one entry each, 18 bytes long, from place 8 on. */
    private static TaggedRaster chain(int n) {
        Forge f = new Forge(false);
        for (int k = 0; k < n; k++) {
            int place = 8 + 18 * k;
            f.putShort(place, 1).putShort(place + 2, 256).putShort(place + 4, 3).putLong(place + 6, 1);
            f.putLong(place + 14, k == n - 1 ? 0 : place + 18);
        }
        f.putLong(4, 8);
        return f.x;
    }
}
