import java.util.ArrayList;
import java.util.List;
import java.util.Map;
import java.util.TreeMap;

/** The document once more, written with lists, maps and texts, to be compared with the program. */
final class Model {
    final List<Integer> file = new ArrayList<>();
    int[][] samples = new int[1][1];
    int depth = 1;
    final TreeMap<Integer, String> labels = new TreeMap<>();

    Model() {
        clear(false);
    }

    void clear(boolean greatest) {
        file.clear();
        file.addAll(greatest ? List.of(77, 77, 0, 42) : List.of(73, 73, 42, 0));
        file.addAll(List.of(0, 0, 0, 0));
    }

    int byteAt(int place) {
        return place < 0 || place >= file.size() ? -1 : file.get(place);
    }

    boolean poke(int place, int b) {
        if (byteAt(place) < 0 || b < 0 || b > 255) {
            return false;
        }
        file.set(place, b);
        return true;
    }

    boolean begin(int w, int h, int d) {
        if (w < 1 || w > 16 || h < 1 || h > 16 || !List.of(1, 2, 4, 8).contains(d)) {
            return false;
        }
        samples = new int[h][w];
        depth = d;
        return true;
    }

    int width() {
        return samples[0].length;
    }

    int shape() {
        return depth * 1000000 + width() * 1000 + samples.length;
    }

    boolean fill(int x, int y, int w, int h, int v) {
        boolean within = x >= 0 && y >= 0 && (long) x + w <= width() && (long) y + h <= samples.length;
        if (w < 1 || h < 1 || !within || v < 0 || v >= 1 << depth) {
            return false;
        }
        for (int row = y; row < y + h; row++) {
            for (int column = x; column < x + w; column++) {
                samples[row][column] = v;
            }
        }
        return true;
    }

    void wash(int a, int b, int c) {
        for (int y = 0; y < samples.length; y++) {
            for (int x = 0; x < width(); x++) {
                long sum = samples[y][x] + (long) a * x + (long) b * y + c;
                samples[y][x] = (int) Math.floorMod(sum, 1L << depth);
            }
        }
    }

    int sample(int x, int y) {
        return x < 0 || y < 0 || x >= width() || y >= samples.length ? -1 : samples[y][x];
    }

    boolean label(int tag, int c) {
        String text = labels.getOrDefault(tag, "");
        boolean room = text.isEmpty() ? labels.size() < 2 : text.length() < 12;
        if (tag < 32768 || tag > 65535 || c < 1 || c > 127 || !room) {
            return false;
        }
        labels.put(tag, text + (char) c);
        return true;
    }

    int unlabel() {
        int n = labels.size();
        labels.clear();
        return n;
    }

    private boolean greatest() {
        return file.get(0) == 77;
    }

    private long number(int place, int bytes) {
        long value = 0;
        for (int k = 0; k < bytes; k++) {
            value = value * 256 + file.get(greatest() ? place + k : place + bytes - 1 - k);
        }
        return value;
    }

    private static void put(List<Integer> to, boolean greatest, long value, int bytes) {
        for (int k = 0; k < bytes; k++) {
            to.add((int) (value >> 8 * (greatest ? bytes - 1 - k : k)) & 255);
        }
    }

    /** The places of the directories met; then -1 if the walk came to its end. */
    List<Integer> walk() {
        List<Integer> met = new ArrayList<>();
        boolean marked = file.get(0).equals(file.get(1)) && (file.get(0) == 73 || file.get(0) == 77);
        if (!marked || number(2, 2) != 42) {
            return met;
        }
        long next = number(4, 4);
        while (next != 0) {
            boolean may = met.size() < 8 && next % 2 == 0 && next >= 8 && next + 2 <= file.size();
            if (!may || met.contains((int) next)) {
                return met;
            }
            long n = number((int) next, 2);
            if (n == 0 || next + 6 + 12 * n > file.size()) {
                return met;
            }
            met.add((int) next);
            next = number((int) (next + 2 + 12 * n), 4);
        }
        met.add(-1);
        return met;
    }

    boolean sound() {
        return walk().contains(-1);
    }

    List<Integer> directories() {
        List<Integer> met = walk();
        met.remove(Integer.valueOf(-1));
        return met;
    }

    int pages() {
        return directories().size();
    }

    private int entryAt(int directory, int tag) {
        long n = number(directory, 2);
        for (int k = 0; k < n; k++) {
            if (number(directory + 2 + 12 * k, 2) == tag) {
                return directory + 2 + 12 * k;
            }
        }
        return -1;
    }

    /** The values of an entry, or null when it is broken. */
    private List<Long> values(int entry) {
        int kind = (int) number(entry + 2, 2);
        long count = number(entry + 4, 4);
        if (kind < 1 || kind > 4 || count == 0) {
            return null;
        }
        int size = List.of(1, 1, 2, 4).get(kind - 1);
        long place = count * size <= 4 ? entry + 8 : number(entry + 8, 4);
        if (place + count * size > file.size()) {
            return null;
        }
        List<Long> values = new ArrayList<>();
        for (int k = 0; k < count; k++) {
            values.add(number((int) place + k * size, size));
        }
        return values;
    }

    private List<Long> field(int page, int tag) {
        List<Integer> met = directories();
        if (page < 0 || page >= met.size() || entryAt(met.get(page), tag) < 0) {
            return null;
        }
        return values(entryAt(met.get(page), tag));
    }

    long field(int page, int tag, int k) {
        List<Long> values = field(page, tag);
        return values == null || k < 0 || k >= values.size() ? -1 : values.get(k);
    }

    long fieldCount(int page, int tag) {
        List<Long> values = field(page, tag);
        return values == null ? -1 : values.size();
    }

    private List<Integer> rowData(int y, int predictor) {
        StringBuilder bits = new StringBuilder();
        for (int x = 0; x < width(); x++) {
            int left = predictor == 2 && x > 0 ? samples[y][x - 1] : 0;
            int value = Math.floorMod(samples[y][x] - left, 1 << depth);
            bits.append(Integer.toBinaryString((1 << depth) + value).substring(1));
        }
        while (bits.length() % 8 != 0) {
            bits.append('0');
        }
        List<Integer> data = new ArrayList<>();
        for (int k = 0; k < bits.length(); k += 8) {
            data.add(Integer.parseInt(bits.substring(k, k + 8), 2));
        }
        return data;
    }

    private static List<Integer> packets(List<Integer> row) {
        List<Integer> packed = new ArrayList<>();
        List<Integer> loose = new ArrayList<>();
        int at = 0;
        while (at < row.size()) {
            int n = 0;
            while (at + n < row.size() && row.get(at + n).equals(row.get(at))) {
                n++;
            }
            if (n < 3) {
                loose.add(row.get(at));
                at++;
            }
            if (!loose.isEmpty() && (n >= 3 || at == row.size())) {
                packed.add(loose.size() - 1);
                packed.addAll(loose);
                loose.clear();
            }
            if (n >= 3) {
                packed.add(257 - n);
                packed.add(row.get(at));
                at += n;
            }
        }
        return packed;
    }

    private List<Integer> strip(int from, int to, int compression, int predictor) {
        List<Integer> bytes = new ArrayList<>();
        List<Integer> nibbles = new ArrayList<>();
        for (int y = from; y < to; y++) {
            List<Integer> row = rowData(y, predictor);
            bytes.addAll(compression == 32773 ? packets(row) : row);
            for (int b : row) {
                nibbles.add(b / 16);
                nibbles.add(b % 16);
            }
        }
        if (compression == 5) {
            bytes.clear();
            for (int b : Codes.bytes(Codes.of(nibbles))) {
                bytes.add(b);
            }
        }
        return bytes;
    }

    private static int appended(List<Integer> to, List<Integer> bytes) {
        if (to.size() % 2 == 1) {
            to.add(0);
        }
        int place = to.size();
        to.addAll(bytes);
        return place;
    }

    private void entry(List<Integer> to, int tag, int kind, int count, long value) {
        put(to, greatest(), tag, 2);
        put(to, greatest(), kind, 2);
        put(to, greatest(), count, 4);
        put(to, greatest(), value, kind == 3 ? 2 : 4);
        put(to, greatest(), 0, kind == 3 ? 2 : 0);
    }

    int write(int compression, int rowsAStrip, int predictor) {
        boolean known = List.of(1, 5, 32773).contains(compression) && List.of(1, 2).contains(predictor);
        if (!known || rowsAStrip < 1 || rowsAStrip > samples.length) {
            return -1;
        }
        if (!sound()) {
            return -2;
        }
        List<Integer> all = new ArrayList<>(file);
        List<Integer> places = new ArrayList<>();
        List<Integer> lengths = new ArrayList<>();
        for (int y = 0; y < samples.length; y += rowsAStrip) {
            List<Integer> strip = strip(y, Math.min(samples.length, y + rowsAStrip), compression, predictor);
            places.add(appended(all, strip));
            lengths.add(strip.size());
        }
        int n = places.size();
        int placesAt = n == 1 ? places.get(0) : appended(all, longs(places));
        int lengthsAt = n == 1 ? lengths.get(0) : appended(all, longs(lengths));
        List<Integer> directory = new ArrayList<>();
        put(directory, greatest(), 8 + labels.size(), 2);
        entry(directory, 256, 3, 1, width());
        entry(directory, 257, 3, 1, samples.length);
        entry(directory, 258, 3, 1, depth);
        entry(directory, 259, 3, 1, compression);
        entry(directory, 273, 4, n, placesAt);
        entry(directory, 278, 3, 1, rowsAStrip);
        entry(directory, 279, 4, n, lengthsAt);
        entry(directory, 317, 3, 1, predictor);
        for (Map.Entry<Integer, String> label : labels.entrySet()) {
            textEntry(all, directory, label.getKey(), label.getValue());
        }
        put(directory, greatest(), 0, 4);
        int place = appended(all, directory);
        List<Integer> met = directories();
        if (met.size() == 8 || all.size() > 900) {
            return -3;
        }
        int link = 4;
        if (!met.isEmpty()) {
            int last = met.get(met.size() - 1);
            link = last + 2 + 12 * (int) number(last, 2);
        }
        List<Integer> bytes = longs(List.of(place));
        int grown = all.size() - file.size();
        file.clear();
        file.addAll(all);
        for (int k = 0; k < 4; k++) {
            file.set(link + k, bytes.get(k));
        }
        return grown;
    }

    private List<Integer> longs(List<Integer> numbers) {
        List<Integer> bytes = new ArrayList<>();
        for (int number : numbers) {
            put(bytes, greatest(), number, 4);
        }
        return bytes;
    }

    private void textEntry(List<Integer> all, List<Integer> directory, int tag, String text) {
        List<Integer> bytes = new ArrayList<>();
        for (char c : text.toCharArray()) {
            bytes.add((int) c);
        }
        bytes.add(0);
        int count = bytes.size();
        put(directory, greatest(), tag, 2);
        put(directory, greatest(), 2, 2);
        put(directory, greatest(), count, 4);
        if (count > 4) {
            put(directory, greatest(), appended(all, bytes), 4);
        } else {
            while (bytes.size() < 4) {
                bytes.add(0);
            }
            directory.addAll(bytes);
        }
    }

    /** The values of a field that load looks at, or null when it is missing or not fit for it. */
    private List<Long> numbers(int directory, int tag, int count) {
        int entry = entryAt(directory, tag);
        if (entry < 0 || (number(entry + 2, 2) != 3 && number(entry + 2, 2) != 4)) {
            return null;
        }
        List<Long> values = values(entry);
        return values == null || values.size() != count ? null : values;
    }

    int load(int page) {
        List<Integer> met = directories();
        if (page < 0 || page >= met.size()) {
            return -4;
        }
        int directory = met.get(page);
        for (int k = 1; k < number(directory, 2); k++) {
            if (number(directory + 2 + 12 * k, 2) <= number(directory + 12 * k - 10, 2)) {
                return -5;
            }
        }
        List<Long> found = new ArrayList<>();
        for (int tag : new int[] {256, 257, 258, 259, 278, 317}) {
            if (tag == 317 && entryAt(directory, tag) < 0) {
                found.add(1L);
            } else if (numbers(directory, tag, 1) == null) {
                return -5;
            } else {
                found.add(numbers(directory, tag, 1).get(0));
            }
        }
        boolean fit = found.get(0) >= 1 && found.get(0) <= 16 && found.get(1) >= 1 && found.get(1) <= 16
                && List.of(1L, 2L, 4L, 8L).contains(found.get(2)) && List.of(1L, 5L, 32773L).contains(found.get(3))
                && found.get(4) != 0 && List.of(1L, 2L).contains(found.get(5));
        if (!fit) {
            return -5;
        }
        int w = found.get(0).intValue();
        int h = found.get(1).intValue();
        int d = found.get(2).intValue();
        int r = (int) Math.min(h, found.get(4));
        int strips = h / r + (h % r == 0 ? 0 : 1);
        List<Long> places = numbers(directory, 273, strips);
        List<Long> lengths = numbers(directory, 279, strips);
        if (places == null || lengths == null) {
            return -5;
        }
        List<Integer> data = new ArrayList<>();
        for (int k = 0; k < strips; k++) {
            int rows = Math.min(h, k * r + r) - k * r;
            List<Integer> strip = decoded(places.get(k), lengths.get(k), found.get(3).intValue());
            if (strip == null || strip.size() != rows * ((w * d + 7) / 8)) {
                return -6 - k;
            }
            data.addAll(strip);
        }
        samples = new int[h][w];
        depth = d;
        unpack(data, found.get(5) == 2);
        return 0;
    }

    private void unpack(List<Integer> data, boolean differences) {
        int rowBytes = data.size() / samples.length;
        for (int y = 0; y < samples.length; y++) {
            StringBuilder bits = new StringBuilder();
            for (int b : data.subList(y * rowBytes, y * rowBytes + rowBytes)) {
                bits.append(Integer.toBinaryString(256 + b).substring(1));
            }
            for (int x = 0; x < width(); x++) {
                int value = Integer.parseInt(bits.substring(x * depth, x * depth + depth), 2);
                int left = differences && x > 0 ? samples[y][x - 1] : 0;
                samples[y][x] = (value + left) % (1 << depth);
            }
        }
    }

    private List<Integer> decoded(long place, long length, int compression) {
        if (place + length > file.size()) {
            return null;
        }
        List<Integer> bytes = file.subList((int) place, (int) (place + length));
        if (compression == 1) {
            return bytes;
        }
        if (compression == 32773) {
            return unpacked(bytes);
        }
        List<Integer> nibbles = Codes.read(bytes.stream().mapToInt(Integer::intValue).toArray());
        if (nibbles == null || nibbles.size() % 2 == 1) {
            return null;
        }
        List<Integer> data = new ArrayList<>();
        for (int k = 0; k < nibbles.size(); k += 2) {
            data.add(nibbles.get(k) * 16 + nibbles.get(k + 1));
        }
        return data;
    }

    private static List<Integer> unpacked(List<Integer> bytes) {
        List<Integer> data = new ArrayList<>();
        int at = 0;
        while (at < bytes.size()) {
            int c = bytes.get(at);
            int behind = at + 1 + (c < 128 ? c + 1 : c == 128 ? 0 : 1);
            if (behind > bytes.size()) {
                return null;
            }
            for (int k = 0; c > 128 && k < 257 - c; k++) {
                data.add(bytes.get(at + 1));
            }
            if (c < 128) {
                data.addAll(bytes.subList(at + 1, behind));
            }
            at = behind;
        }
        return data;
    }
}
