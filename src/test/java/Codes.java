import java.util.ArrayList;
import java.util.HashMap;
import java.util.List;
import java.util.Map;

/** Compression 5 told with texts and maps, as plainly as the document tells it. */
final class Codes {
    private Codes() {
    }

    static int width(int number) {
        return number <= 13 ? 5 : number <= 45 ? 6 : 7;
    }

    /** Codes as bytes, each with the width that its place asks for. */
    static int[] bytes(int... codes) {
        StringBuilder bits = new StringBuilder();
        int number = 0;
        for (int code : codes) {
            String text = Integer.toBinaryString(code);
            bits.append("0".repeat(width(number + 1) - text.length())).append(text);
            if (code == 16) {
                number = 0;
            } else if (code != 17) {
                number++;
            }
        }
        while (bits.length() % 8 != 0) {
            bits.append('0');
        }
        int[] bytes = new int[bits.length() / 8];
        for (int k = 0; k < bytes.length; k++) {
            bytes[k] = Integer.parseInt(bits.substring(8 * k, 8 * k + 8), 2);
        }
        return bytes;
    }

    /** The codes that nibbles are written by, with CLEAR and END. */
    static int[] of(List<Integer> nibbles) {
        StringBuilder rest = new StringBuilder();
        for (int nibble : nibbles) {
            rest.append((char) ('a' + nibble));
        }
        List<Integer> codes = new ArrayList<>();
        Map<String, Integer> table = new HashMap<>();
        int number = 0;
        codes.add(16);
        while (rest.length() > 0) {
            int n = 1;
            for (Map.Entry<String, Integer> row : table.entrySet()) {
                if (row.getKey().length() > n && rest.indexOf(row.getKey()) == 0) {
                    n = row.getKey().length();
                }
            }
            String taken = rest.substring(0, n);
            rest.delete(0, n);
            codes.add(n == 1 ? taken.charAt(0) - 'a' : table.get(taken));
            number++;
            if (rest.length() == 0) {
                break;
            }
            if (number == 109) {
                codes.add(16);
                table.clear();
                number = 0;
            } else {
                table.put(taken + rest.charAt(0), 18 + table.size());
            }
        }
        codes.add(17);
        return codes.stream().mapToInt(Integer::intValue).toArray();
    }

    /** The nibbles that bytes are read as, or null when reading fails. */
    static List<Integer> read(int[] bytes) {
        StringBuilder bits = new StringBuilder();
        for (int b : bytes) {
            bits.append(Integer.toBinaryString(256 + b).substring(1));
        }
        List<Integer> nibbles = new ArrayList<>();
        Map<Integer, List<Integer>> table = new HashMap<>();
        List<Integer> before = null;
        int number = 1;
        int at = 0;
        while (at + width(number) <= bits.length()) {
            int code = Integer.parseInt(bits.substring(at, at + width(number)), 2);
            at += width(number);
            if (code == 17) {
                return nibbles;
            }
            if (code == 16) {
                table.clear();
                number = 1;
                continue;
            }
            boolean adds = number >= 2 && 16 + number <= 126;
            List<Integer> row = new ArrayList<>();
            if (code < 16) {
                row.add(code);
            } else if (table.containsKey(code)) {
                row.addAll(table.get(code));
            } else if (adds && code == 16 + number) {
                row.addAll(before);
                row.add(before.get(0));
            } else {
                return null;
            }
            if (adds) {
                List<Integer> added = new ArrayList<>(before);
                added.add(row.get(0));
                table.put(16 + number, added);
            }
            nibbles.addAll(row);
            if (nibbles.size() > 100000) {
                return null;
            }
            before = row;
            number++;
        }
        return null;
    }
}
