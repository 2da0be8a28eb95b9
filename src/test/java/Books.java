/** Writes texts into a TextRows by its own calls; characters are bytes. */
final class Books {
    private Books() {
    }

    /** A new object with these documents and an index of them. */
    static TextRows of(int rate, String... documents) {
        TextRows x = new TextRows();
        write(x, documents);
        x.build(rate);
        return x;
    }

    static void write(TextRows x, String... documents) {
        for (String document : documents) {
            feed(x, document);
            x.cut();
        }
    }

    static void feed(TextRows x, String text) {
        for (int from = 0; from < text.length(); from += 20) {
            String twenty = text.substring(from, Math.min(from + 20, text.length()));
            x.feed(four(twenty, 0), four(twenty, 4), four(twenty, 8), four(twenty, 12), four(twenty, 16));
            if (twenty.length() < 20) {
                x.end(twenty.length());
            }
        }
    }

    static int four(String text, int from) {
        int number = 0;
        for (int i = from; i < from + 4; i++) {
            number = number << 8 | (i < text.length() ? text.charAt(i) : 7);
        }
        return number;
    }

    static int answer(TextRows x, String query) {
        for (int i = 0; i < query.length(); i++) {
            x.ask(query.charAt(i));
        }
        return x.answer();
    }

    /** The pattern at hand, as text. */
    static String pattern(TextRows x) {
        StringBuilder text = new StringBuilder();
        for (int i = 0; i < x.pattern(0); i++) {
            text.append((char) x.patternByte(i));
        }
        return text.toString();
    }
}
