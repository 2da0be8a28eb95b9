import java.util.Arrays;
import java.util.List;
import java.util.Random;

/** Books of 3,000 places. */
final class FullBooks {
    private static final int BYTES = 2999;

    private FullBooks() {
    }

    static List<String[]> all() {
        Random random = new Random(5);
        return List.of(
                new String[] {"a".repeat(BYTES)},
                new String[] {letters(random, 'a', 2, BYTES)},
                new String[] {letters(random, 0, 256, BYTES)},
                new String[] {onePairTwice()},
                new String[] {fibonacci()},
                new String[] {parities()},
                new String[] {"a".repeat(1499), "a".repeat(1499)},
                new String[] {"a".repeat(1499) + "b" + "a".repeat(1499)},
                forty("ab".repeat(37)),
                fortyOthers(random));
    }

    private static String letters(Random random, int least, int count, int length) {
        StringBuilder text = new StringBuilder();
        for (int i = 0; i < length; i++) {
            text.append((char) (least + random.nextInt(count)));
        }
        return text.toString();
    }

    /** All pairs of neighbours are different but for two: as many ranks as can be are left for one more sorting. */
    private static String onePairTwice() {
        StringBuilder text = new StringBuilder();
        for (int step = 1; text.length() < BYTES - 2; step += 2) {
            for (int i = 0; i < 256 && text.length() < BYTES - 2; i++) {
                text.append((char) (i * step % 256));
            }
        }
        return text.append(text, 0, 2).toString();
    }

    /** Many squares. */
    private static String fibonacci() {
        String text = "a";
        String last = "b";
        while (text.length() < BYTES) {
            String next = text + last;
            last = text;
            text = next;
        }
        return text.substring(0, BYTES);
    }

    /** Many squares, but no part of it stands three times in a row; many mirrors. */
    private static String parities() {
        StringBuilder text = new StringBuilder();
        for (int i = 0; i < BYTES; i++) {
            text.append((char) ('a' + Integer.bitCount(i) % 2));
        }
        return text.toString();
    }

    private static String[] forty(String text) {
        String[] book = new String[40];
        Arrays.fill(book, text);
        return book;
    }

    /** Some have no bytes, some are alike, some repeat themselves; the last one has all that is left. */
    private static String[] fortyOthers(Random random) {
        String[] book = new String[40];
        int left = BYTES;
        for (int d = 0; d < 39; d++) {
            String text = letters(random, 'a', 1 + random.nextInt(3), random.nextInt(130));
            switch (d % 5) {
                case 0:
                    book[d] = "";
                    break;
                case 1:
                    book[d] = d < 5 ? text : book[d - 5];
                    break;
                case 2:
                    book[d] = text.substring(0, Math.min(text.length(), 9)).repeat(7);
                    break;
                default:
                    book[d] = text;
                    break;
            }
            left -= book[d].length() + 1;
        }
        book[39] = letters(random, 'a', 3, left);
        return book;
    }
}
