/** What a query is and means, and promises 31 to 33: ask, answer, answered. */
final class QuerySentences {
    private static final int TERMS = Sentences.TERMS;
    private static final int BAD = TextRows.BAD;
    private static final int LEAST = Integer.MIN_VALUE;
    private static final int GREATEST = Integer.MAX_VALUE;
    private static final String SPECIAL = ".\\()[]{}*+?|";

    private final Sentences s;

    QuerySentences(Sentences s) {
        this.s = s;
    }

    void run() {
        sums();
        items();
        repeats();
        numbersOfTimes();
        atoms();
        signsOfTheirOwn();
        brackets();
        ranges();
        rangesBehindBackslash();
        numbers();
        blanksAndMeaning();
        sizes();
        sizesOfItems();
        matching();
        ask();
        answer();
        wrongSigns();
        endsTooEarly();
        wrongBehindBrackets();
        tooLittle();
        tooManyOpen();
        tooGreat();
        lastAnswer();
        answered();
    }

    /** All signs 32 .. 126, each at the place of its number less 32. */
    private static TextRows allSigns() {
        StringBuilder signs = new StringBuilder();
        for (char c = 32; c <= 126; c++) {
            signs.append(c);
        }
        return Books.of(1, signs.toString());
    }

    private void sums() {
        s.test(TERMS, "A QUERY is a text of signs 32 .. 126.", () -> {
            TextRows x = allSigns();
            s.matches(x, " ", 0, 1, 1);
            s.matches(x, "~", 94, 1, 1);
            s.matches(x, " !", 0, 2, 2);
        });
        s.test(TERMS, "A SUM is one or more ROWS with | between them;", () -> {
            TextRows x = Books.of(1, "abc");
            s.matches(x, "b", 1, 1, 1);
            s.matches(x, "a|c", 0, 1, 1, 2, 1, 1);
            s.matches(x, "a|b|ab|c", 0, 1, 2, 1, 1, 1, 2, 1, 1);
            s.matches(x, "|");
            s.matches(x, "|b", 1, 1, 1);
            s.matches(x, "b||", 1, 1, 1);
        });
        s.test(TERMS, "a ROW any number of ITEMS (none, too);", () -> {
            TextRows x = Books.of(1, "abc");
            s.matches(x, "");
            s.matches(x, "()");
            s.matches(x, "(|)|()");
            s.matches(x, "a()b", 0, 2, 2);
            s.matches(x, "abc", 0, 3, 3);
            TextRows y = Books.of(1, "a".repeat(121));
            s.matches(y, "a".repeat(120), 0, 120, 120, 1, 120, 120);
        });
    }

    private void items() {
        s.test(TERMS, "an ITEM is an ATOM, and behind it nothing, or just one of", () -> {
            TextRows x = Books.of(1, "abc");
            String[] repeats = {"*", "+", "?", "{1}", "{1,}", "{1,2}"};
            for (String one : repeats) {
                s.wrong(x, one, 0);
                s.wrong(x, "a|" + one, 2);
                s.wrong(x, "(" + one + ")", 1);
                s.matches(x, "b" + one, 1, 1, 1);
                for (String other : repeats) {
                    s.wrong(x, "b" + one + other, 1 + one.length());
                }
            }
        });
    }

    /** b0 a1 a2 a3 b4 END5. */
    private void repeats() {
        s.test(TERMS, "* (any number of times)", () -> {
            TextRows x = Books.of(1, "baaab");
            s.matches(x, "ba*", 0, 1, 4, 4, 1, 1);
            s.matches(x, "ba*b", 0, 5, 5);
            s.matches(x, "a*", 1, 1, 3, 2, 1, 2, 3, 1, 1);
            s.matches(x, "(aa)*b", 0, 1, 1, 2, 3, 3, 4, 1, 1);
        });
        s.test(TERMS, "+ (at least once)", () -> {
            TextRows x = Books.of(1, "baaab");
            s.matches(x, "ba+", 0, 2, 4);
            s.matches(x, "a+b", 1, 4, 4, 2, 3, 3, 3, 2, 2);
            s.matches(x, "(a|)+b", 0, 1, 1, 1, 4, 4, 2, 3, 3, 3, 2, 2, 4, 1, 1);
        });
        s.test(TERMS, "? (at most once)", () -> {
            TextRows x = Books.of(1, "baaab");
            s.matches(x, "ba?", 0, 1, 2, 4, 1, 1);
            s.matches(x, "ba?b");
            s.matches(x, "(aa)?b", 0, 1, 1, 2, 3, 3, 4, 1, 1);
        });
    }

    private void numbersOfTimes() {
        s.test(TERMS, "{ a NUMBER } (so often)", () -> {
            TextRows x = Books.of(1, "baaab");
            s.matches(x, "ba{2}", 0, 3, 3);
            s.matches(x, "ba{0}", 0, 1, 1, 4, 1, 1);
            s.matches(x, "ba{3}b", 0, 5, 5);
            s.matches(x, "ba{4}");
            s.matches(x, "a{0}");
        });
        s.test(TERMS, "{ a NUMBER , } (at least)", () -> {
            TextRows x = Books.of(1, "baaab");
            s.matches(x, "ba{2,}", 0, 3, 4);
            s.matches(x, "ba{0,}", 0, 1, 4, 4, 1, 1);
            s.matches(x, "ba{3,}", 0, 4, 4);
            s.matches(x, "ba{4,}");
        });
        s.test(TERMS, "{ a NUMBER , a NUMBER } (from the first to the second one).", () -> {
            TextRows x = Books.of(1, "baaab");
            s.matches(x, "ba{1,2}", 0, 2, 3);
            s.matches(x, "ba{0,0}", 0, 1, 1, 4, 1, 1);
            s.matches(x, "ba{0,1}", 0, 1, 2, 4, 1, 1);
            s.matches(x, "ba{2,2}", 0, 3, 3);
            s.matches(x, "ba{3,99}", 0, 4, 4);
            s.matches(x, "ba{4,5}");
        });
    }

    private void atoms() {
        s.test(TERMS, "An ATOM is . (any byte);", () -> {
            TextRows x = Books.of(1, "\u0000\n", "\u007f\u00ff");
            s.matches(x, ".", 0, 1, 1, 1, 1, 1, 3, 1, 1, 4, 1, 1);
            s.matches(x, "..", 0, 2, 2, 3, 2, 2);
            s.matches(x, "...");
        });
        s.test(TERMS, "\\ and any sign (that byte);", () -> {
            TextRows x = allSigns();
            for (int c = 32; c <= 126; c++) {
                s.due("answer of \\" + (char) c, Books.answer(x, "\\" + (char) c), 1);
                s.due("answered(0, 0)", x.answered(0, 0), c - 32);
            }
            s.matches(x, "\\(\\)", 8, 2, 2);
            s.matches(x, "\\*\\+*", 10, 1, 2);
        });
        s.test(TERMS, "( a SUM );", () -> {
            TextRows x = Books.of(1, "abcb");
            s.matches(x, "(a|c)b", 0, 2, 2, 2, 2, 2);
            s.matches(x, "((b))", 1, 1, 1, 3, 1, 1);
            s.matches(x, "(|a)b", 0, 2, 2, 1, 1, 1, 3, 1, 1);
            s.wrong(x, "(a|c", 4);
            s.wrong(x, "a|c)", 3);
        });
    }

    private void signsOfTheirOwn() {
        s.test(TERMS, "or a sign but . \\ ( ) [ ] { } * + ? | (that byte).", () -> {
            TextRows x = allSigns();
            int own = 0;
            for (char c = 32; c <= 126; c++) {
                if (SPECIAL.indexOf(c) < 0) {
                    own++;
                    s.due("answer of " + c, Books.answer(x, "" + c), 1);
                    s.due("answered(0, 0)", x.answered(0, 0), c - 32);
                }
            }
            s.due("signs that are bytes", own, 83);
        });
        s.test(TERMS, "or a sign but . \\ ( ) [ ] { } * + ? | (that byte).", () -> {
            TextRows x = allSigns();
            int[] due = {95, -3, -3, -2, -3, -2, -2, -2, -2, -2, -2, 0};
            for (int i = 0; i < SPECIAL.length(); i++) {
                s.due("answer of " + SPECIAL.charAt(i), Books.answer(x, "" + SPECIAL.charAt(i)), due[i]);
            }
        });
    }

    private void brackets() {
        String sentence = "[ and RANGES ], or [^ and RANGES ] (each byte that is in one of these, or in none);";
        s.test(TERMS, sentence, () -> {
            TextRows x = Books.of(1, "\u0000\u001f a~", "\u007f\u0080\u00ff");
            // \0 0, 31 1, blank 2, a 3, ~ 4, END 5, 127 6, 128 7, 255 8, END 9
            s.matches(x, "[a]", 3, 1, 1);
            s.matches(x, "[ a~]", 2, 1, 1, 3, 1, 1, 4, 1, 1);
            s.matches(x, "[ -~]", 2, 1, 1, 3, 1, 1, 4, 1, 1);
            s.matches(x, "[^ -~]", 0, 1, 1, 1, 1, 1, 6, 1, 1, 7, 1, 1, 8, 1, 1);
            s.matches(x, "[^ a]", 0, 1, 1, 1, 1, 1, 4, 1, 1, 6, 1, 1, 7, 1, 1, 8, 1, 1);
            s.matches(x, "[^z]{4}", 0, 4, 4, 1, 4, 4);
            s.matches(x, "[aa-aa]", 3, 1, 1);
        });
        s.test(TERMS, sentence, () -> {
            TextRows x = allSigns();
            s.matches(x, "[.]", 14, 1, 1);
            s.matches(x, "[(){}*+?|]{2}", 8, 2, 2, 9, 2, 2, 10, 2, 2, 91, 2, 2, 92, 2, 2);
            s.matches(x, "[a-c]x");
            s.matches(x, "[a-c]{3}", 65, 3, 3);
        });
    }

    private void ranges() {
        s.test(TERMS, "A RANGE is a byte, or a byte, - and a byte that is not less;", () -> {
            TextRows x = Books.of(1, "abcde");
            s.matches(x, "[b]", 1, 1, 1);
            s.matches(x, "[b-b]", 1, 1, 1);
            s.matches(x, "[b-d]", 1, 1, 1, 2, 1, 1, 3, 1, 1);
            s.matches(x, "[a-bd-e]", 0, 1, 1, 1, 1, 1, 3, 1, 1, 4, 1, 1);
            s.matches(x, "[ab-cz]", 0, 1, 1, 1, 1, 1, 2, 1, 1);
            s.wrong(x, "[b-a]", 3);
            s.wrong(x, "[a-c-e]", 4);
        });
        s.test(TERMS, "There is one RANGE or more.", () -> {
            TextRows x = Books.of(1, "ab]");
            s.wrong(x, "[]", 1);
            s.wrong(x, "[]]", 1);
            s.wrong(x, "[^]", 2);
            s.wrong(x, "[^]]", 2);
            s.matches(x, "[b]", 1, 1, 1);
            s.matches(x, "[" + "b".repeat(198) + "]", 1, 1, 1);
            s.matches(x, "[^" + "b".repeat(197) + "]", 0, 1, 1, 2, 1, 1);
        });
    }

    private void rangesBehindBackslash() {
        String sentence = "of [ ] \\ and - (and of ^ right behind the [) a byte in a RANGE stands behind a \\, "
                + "as any other one may.";
        s.test(TERMS, sentence, () -> {
            TextRows x = Books.of(1, "[]\\-^a");
            s.matches(x, "[\\[]", 0, 1, 1);
            s.matches(x, "[\\]]", 1, 1, 1);
            s.matches(x, "[\\\\]", 2, 1, 1);
            s.matches(x, "[\\-]", 3, 1, 1);
            s.matches(x, "[\\^]", 4, 1, 1);
            s.matches(x, "[\\a]", 5, 1, 1);
            s.matches(x, "[\\[-\\]]", 0, 1, 1, 1, 1, 1, 2, 1, 1);
            s.matches(x, "[,-\\-]", 3, 1, 1);
            s.matches(x, "[^\\[-\\^]", 3, 1, 1, 5, 1, 1);
        });
        s.test(TERMS, sentence, () -> {
            TextRows x = Books.of(1, "[]\\-^a");
            s.wrong(x, "[[]", 1);
            s.wrong(x, "[a[]", 2);
            s.wrong(x, "[-]", 1);
            s.wrong(x, "[^-]", 2);
            s.wrong(x, "[a-[]", 3);
            s.wrong(x, "[+--]", 3);
            s.wrong(x, "[a-]", 3);
            s.wrong(x, "[\\]", 3);
        });
        s.test(TERMS, "(and of ^ right behind the [)", () -> {
            TextRows x = Books.of(1, "[]\\-^a");
            s.matches(x, "[a^]", 4, 1, 1, 5, 1, 1);
            s.matches(x, "[^^]", 0, 1, 1, 1, 1, 1, 2, 1, 1, 3, 1, 1, 5, 1, 1);
            s.matches(x, "[\\^-a]", 4, 1, 1, 5, 1, 1);
            s.matches(x, "[\\]-^]", 1, 1, 1, 4, 1, 1);
        });
    }

    private void numbers() {
        s.test(TERMS, "A NUMBER is one or two figures", () -> {
            TextRows x = Books.of(1, "a".repeat(12));
            s.due("{9}", Books.answer(x, "a{9}"), 4);
            s.due("{09}", Books.answer(x, "a{09}"), 4);
            s.due("{12}", Books.answer(x, "a{12}"), 1);
            s.due("{99}", Books.answer(x, "a{99}"), 0);
            s.due("{00}", Books.answer(x, "a{00}a"), 12);
            s.due("{00,01}", Books.answer(x, "a{00,01}"), 12);
            s.wrong(x, "a{}", 2);
            s.wrong(x, "a{123}", 4);
            s.wrong(x, "a{001}", 4);
            s.wrong(x, "a{1,}}", 5);
            s.wrong(x, "a{1,234}", 6);
            s.wrong(x, "a{-1}", 2);
            s.wrong(x, "a{a}", 2);
            s.wrong(x, "a{1a}", 3);
        });
        s.test(TERMS, "the second of two is not less than the first.", () -> {
            TextRows x = Books.of(1, "a".repeat(12));
            s.due("{3,3}", Books.answer(x, "a{3,3}"), 10);
            s.due("{3,4}", Books.answer(x, "a{3,4}"), 10);
            s.due("{9,10}", Books.answer(x, "a{9,10}"), 4);
            s.due("{09,9}", Books.answer(x, "a{09,9}"), 4);
            s.due("{0,0}", Books.answer(x, "a{0,0}"), 0);
            s.wrong(x, "a{3,2}", 4);
            s.wrong(x, "a{1,0}", 4);
            s.wrong(x, "a{10,9}", 5);
            s.wrong(x, "a{99,98}", 5);
        });
    }

    private void blanksAndMeaning() {
        s.test(TERMS, "No blanks are left out.", () -> {
            TextRows x = Books.of(1, "a b  b");
            s.matches(x, "a b", 0, 3, 3);
            s.matches(x, "ab");
            s.matches(x, "  ", 3, 2, 2);
            s.matches(x, " *b", 1, 2, 2, 2, 1, 1, 3, 3, 3, 4, 2, 2, 5, 1, 1);
            s.matches(x, "a |x", 0, 2, 2);
            s.matches(x, "[ ]b", 1, 2, 2, 4, 2, 2);
            s.wrong(x, "a{ 1}", 2);
            s.wrong(x, "a{1 }", 3);
            s.wrong(x, "a{1, 2}", 4);
            s.wrong(x, "a{1 ,2}", 3);
            s.wrong(x, "[a- ]", 3);
        });
        s.test(TERMS, "A query means rows of bytes, as usual.", () -> {
            TextRows x = Books.of(1, "abbcab");
            s.matches(x, "ab|c", 0, 2, 2, 3, 1, 1, 4, 2, 2);
            s.matches(x, "ab*", 0, 1, 3, 4, 1, 2);
            s.matches(x, "(ab)*", 0, 2, 2, 4, 2, 2);
            s.matches(x, "(a|b|c)*b", 0, 2, 6, 1, 1, 5, 2, 1, 4, 3, 3, 3, 4, 2, 2, 5, 1, 1);
            s.matches(x, "((a?b)+c?)+", 0, 2, 6, 1, 1, 5, 2, 1, 4, 4, 2, 2, 5, 1, 1);
            s.matches(x, "(((a*)*)*)*b", 0, 2, 2, 1, 1, 1, 2, 1, 1, 4, 2, 2, 5, 1, 1);
            for (String query : new String[] {"(a?|b)c", "(b|a*)c", "((|b)|a)c", "(a|b){0,1}c"}) {
                s.matches(x, query, 2, 2, 2, 3, 1, 1);
            }
        });
    }

    private void sizes() {
        s.test(TERMS, "Its SIZE: of an ATOM but brackets 1;", () -> {
            TextRows x = Books.of(1, "a".repeat(125));
            for (String atom : new String[] {"a", ".", "\\a", "[a]", "[^bcd-z]"}) {
                s.due("120 of " + atom, Books.answer(x, atom + "{99}" + atom + "{21}"), 6);
                s.tooGreat(x, atom + "{99}" + atom + "{22}");
            }
        });
        s.test(TERMS, "of brackets their SUM's;", () -> {
            TextRows x = Books.of(1, "a".repeat(125));
            s.due("((a)) is 1", Books.answer(x, "((a)){99}(a){21}"), 6);
            s.tooGreat(x, "((a)){99}(a){22}");
            s.due("(a{60}) is 60", Books.answer(x, "(a{60}){2}"), 6);
            s.tooGreat(x, "(a{61}){2}");
            s.due("() is 0", Books.answer(x, "(){99}a{99}(()){99}a{21}"), 6);
        });
        s.test(TERMS, "of a SUM that of all its ROWS", () -> {
            TextRows x = Books.of(1, "a".repeat(125));
            s.due("60 and 60", Books.answer(x, "a{60}|b{60}"), 66);
            s.tooGreat(x, "a{60}|b{61}");
            s.due("three rows", Books.answer(x, "(a{20}|b{19}|c){3}"), 66);
            s.tooGreat(x, "(a{20}|b{19}|cc){3}");
            s.due("rows of nothing", Books.answer(x, "a{60}|||b{60}|"), 66);
        });
        s.test(TERMS, "of a ROW that of all its ITEMS;", () -> {
            TextRows x = Books.of(1, "a".repeat(125));
            s.due("120 items", Books.answer(x, "a".repeat(120)), 6);
            s.tooGreat(x, "a".repeat(121));
        });
    }

    private void sizesOfItems() {
        s.test(TERMS, "of an ITEM its ATOM's, times the greater NUMBER", () -> {
            TextRows x = Books.of(1, "a".repeat(125));
            s.due("* + ? are no numbers", Books.answer(x, "(a{40})*(a{40})+(a{40})?"), 86);
            s.tooGreat(x, "(a{40})*(a{40})+(a{40})?a");
            s.due("the second one", Books.answer(x, "a{1,99}a{0,21}"), 125);
            s.tooGreat(x, "a{1,99}a{0,22}");
            s.due("the only one", Books.answer(x, "(a{12}){10}"), 6);
            s.tooGreat(x, "(a{12}){11}");
            s.due("{0}: nothing of it", Books.answer(x, "((a{99}){99}){0}a"), 125);
            s.due("{0,0}: nothing of it", Books.answer(x, "((a{99}){99}){0,0}a"), 125);
            s.tooGreat(x, "((((a{99}){99}){99}){99}){99}");
        });
        s.test(TERMS, "(without a second one behind a comma: the first, at least 1).", () -> {
            TextRows x = Books.of(1, "a".repeat(125));
            s.due("{3,}", Books.answer(x, "(a{40}){3,}"), 6);
            s.tooGreat(x, "(a{41}){3,}");
            s.due("{0,} and {1,}", Books.answer(x, "(a{60}){0,}(a{60}){1,}"), 66);
            s.tooGreat(x, "(a{60}){0,}(a{61}){1,}");
            s.tooGreat(x, "(a{99}b{22}){0,}");
        });
        s.test(TERMS, "It is at most 120.", () -> {
            TextRows x = Books.of(1, "a".repeat(125));
            s.due("120", Books.answer(x, "(a{30}){4}"), 6);
            s.due("answered(5, 1)", x.answered(5, 1), 120);
            s.tooGreat(x, "(a{30}){4}a");
            s.due("119", Books.answer(x, "(a{17}){7}"), 7);
        });
    }

    private void matching() {
        s.test(TERMS, "It MATCHES at a place with a length, if a substring of that length there is one of those "
                + "rows;", () -> {
            TextRows x = Books.of(1, "abcabd");
            s.matches(x, "ab|abc|bd", 0, 2, 3, 3, 2, 2, 4, 2, 2);
            s.matches(x, "abd", 3, 3, 3);
            s.matches(x, "abx");
        });
        s.test(TERMS, "of 1 or more bytes", () -> {
            TextRows x = Books.of(1, "bab", "");
            s.matches(x, "a*", 1, 1, 1);
            s.matches(x, "(a?|b?){0,2}", 0, 1, 2, 1, 1, 2, 2, 1, 1);
            s.matches(x, "x*");
            s.matches(x, "(x|)");
        });
        s.test(TERMS, "within the document.", () -> {
            TextRows x = Books.of(1, "ab", "b", "", "ba");
            s.matches(x, "bb");
            s.matches(x, ".*", 0, 1, 2, 1, 1, 1, 3, 1, 1, 6, 1, 2, 7, 1, 1);
            s.matches(x, "b.", 6, 2, 2);
            s.matches(x, "[^x][^x]", 0, 2, 2, 6, 2, 2);
        });
    }

    private void ask() {
        s.test(31, "A sign comes behind the query (also without an index): how many it has.", () -> {
            TextRows x = new TextRows();
            s.due("ask(32)", x.ask(32), 1);
            s.due("ask(126)", x.ask(126), 2);
            s.due("count(10)", x.count(10), 2);
            Books.write(x, "~ ~");
            x.build(1);
            s.due("ask('?') behind build()", x.ask('?'), 3);
            s.due("answer(): signs stand in their order", x.answer(), 1);
            s.due("answered(0, 0)", x.answered(0, 0), 1);
            s.due("answered(0, 1)", x.answered(0, 1), 1);
            s.due("answered(0, 2)", x.answered(0, 2), 2);
            s.due("ask('a') of a new query", x.ask('a'), 1);
        });
        s.test(31, "BAD, changing nothing: not 32 .. 126", () -> {
            TextRows x = Books.of(1, "ab");
            x.ask('a');
            for (int c : new int[] {31, 127, 0, -1, 255, 256, 'a' + 256, LEAST, GREATEST}) {
                s.due("ask(" + c + ")", x.ask(c), BAD);
                s.due("count(10)", x.count(10), 1);
            }
            s.due("answer()", x.answer(), 1);
        });
        s.test(31, "or it has 200.", () -> {
            TextRows x = Books.of(1, "acb");
            x.ask('a');
            for (int i = 2; i <= 199; i++) {
                s.due("ask('|')", x.ask('|'), i);
            }
            s.due("the 200th", x.ask('b'), 200);
            s.due("the 201st", x.ask('c'), BAD);
            s.due("count(10)", x.count(10), 200);
            s.due("answer() of the 200", x.answer(), 2);
            s.due("answered(1, 0)", x.answered(1, 0), 2);
            s.due("ask('a')", x.ask('a'), 1);
        });
    }

    private void answer() {
        s.test(32, "The query, which is empty then, is answered: at how many places it matches.", () -> {
            TextRows x = Books.of(1, "abab", "b");
            s.due("a right one", Books.answer(x, "b"), 3);
            s.due("count(10)", x.count(10), 0);
            s.due("the empty one: at none", x.answer(), 0);
            s.due("a wrong one", Books.answer(x, "b)"), -3);
            s.due("count(10)", x.count(10), 0);
            s.due("one that is too great", Books.answer(x, "b{99}b{99}"), -1000);
            s.due("count(10)", x.count(10), 0);
            s.due("each place counts once", Books.answer(x, "b|b|ba|b+"), 3);
        });
        s.test(32, "BAD: no index (the query stays).", () -> {
            TextRows x = new TextRows();
            x.ask('a');
            x.ask('b');
            s.due("answer()", x.answer(), BAD);
            s.due("count(10)", x.count(10), 2);
            Books.write(x, "abab");
            s.due("answer() of a book that was not built", x.answer(), BAD);
            x.build(1);
            s.due("count(10)", x.count(10), 2);
            s.due("answer()", x.answer(), 2);
            TextRows y = new TextRows();
            y.ask(')');
            s.due("answer() of a wrong one", y.answer(), BAD);
            s.due("count(10)", y.count(10), 1);
        });
    }

    private void wrongSigns() {
        s.test(32, "- 2 less the place (from 0) of the first sign that can't come", () -> {
            TextRows x = Books.of(1, "ab");
            s.wrong(x, ")", 0);
            s.wrong(x, "a)", 1);
            s.wrong(x, "a)]}", 1);
            s.wrong(x, "()a|b)(", 5);
            s.wrong(x, "a]", 1);
            s.wrong(x, "a}", 1);
            s.wrong(x, "{", 0);
            s.wrong(x, "(a|?)", 3);
            s.wrong(x, "a{1}{1}", 4);
        });
        s.test(32, "- 2 less the place (from 0) of the first sign that can't come", () -> {
            TextRows x = Books.of(1, "ab");
            s.wrong(x, "a".repeat(199) + ")", 199);
            s.due("count(10)", x.count(10), 0);
        });
    }

    private void endsTooEarly() {
        s.test(32, "(how many it has, if it ends too early;", () -> {
            TextRows x = Books.of(1, "ab");
            for (String query : new String[] {"(", "(a", "((a)", "(a|", "\\", "a\\", "(\\", "[", "[^", "[a", "[^a",
                "[a-", "[a-b", "[\\", "[a-\\", "a{", "a{1", "a{12", "a{1,", "a{1,2", "a{1,23", "()("}) {
                s.wrong(x, query, query.length());
            }
        });
        s.test(32, "(how many it has, if it ends too early;", () -> {
            TextRows x = Books.of(1, "ab");
            s.wrong(x, "()".repeat(99) + "(a", 200);
            s.wrong(x, "a".repeat(199) + "\\", 200);
        });
        s.test(32, "(how many it has, if it ends too early;", () -> {
            TextRows x = Books.of(1, "ab");
            for (String query : new String[] {"(b)", "a(b|b)", "\\b", "[b]", "[^a]", "[a-b]", "[\\b]", "[a-\\b]",
                "b{1}", "b{01}", "b{1,}", "b{1,2}", "b{1,12}"}) {
                s.holds(query + " is right", Books.answer(x, query) > 0);
                s.wrong(x, query.substring(0, query.length() - 1), query.length() - 1);
            }
            s.holds("a number of two figures is right", Books.answer(x, "b{0,12}") > 0);
            s.wrong(x, "b{0,1", 5);
            s.holds("a number of two figures is right", Books.answer(x, "b{01}") > 0);
            s.wrong(x, "b{0", 3);
        });
    }

    private void wrongBehindBrackets() {
        s.test(32, "behind a [ or { what is no RANGE, NUMBER, at its first wrong sign;", () -> {
            TextRows x = Books.of(1, "ab");
            String[] queries = {"[]a]", "[^]a]", "[[a]", "[-a]", "[^-a]", "[a-]b]", "[a-[b]", "[a--]", "[a-b-c]",
                "[ab[]", "a{}", "a{,}", "a{,2}", "a{b}", "a{1b}", "a{1,b}", "a{1,2b}", "a{123}", "a{1,234}", "a{1,2,3}",
                "a{1}}", "a{+1}", "a{1-2}"};
            int[] places = {1, 2, 1, 1, 2, 3, 3, 3, 4,
                3, 2, 2, 2, 2, 3, 4, 5, 4, 6, 5,
                4, 2, 3};
            for (int i = 0; i < queries.length; i++) {
                s.wrong(x, queries[i], places[i]);
            }
        });
    }

    private void tooLittle() {
        s.test(32, "a second byte of a RANGE", () -> {
            TextRows x = Books.of(1, "ab");
            s.wrong(x, "[b-a]", 3);
            s.wrong(x, "[b-\\a]", 3);
            s.wrong(x, "[\\b-a]", 4);
            s.wrong(x, "[\\b-\\a]", 4);
            s.wrong(x, "[^b-a]", 4);
            s.wrong(x, "[a-bz-y]", 6);
            s.wrong(x, "[a-\\-]", 3);
            s.wrong(x, "[b-a", 3);
        });
        s.test(32, "or a second NUMBER, that is too little: its first sign;", () -> {
            TextRows x = Books.of(1, "ab");
            s.wrong(x, "a{2,1}", 4);
            s.wrong(x, "a{12,11}", 5);
            s.wrong(x, "a{10,9}", 5);
            s.wrong(x, "a{10,09}", 5);
            s.wrong(x, "(a{3,2}", 5);
        });
    }

    private void tooManyOpen() {
        s.test(32, "more than 20 ( open: that one);", () -> {
            TextRows x = Books.of(1, "ab");
            s.due("20 open", Books.answer(x, "(".repeat(20) + "a" + ")".repeat(20)), 1);
            s.wrong(x, "(".repeat(21) + "a" + ")".repeat(21), 20);
            s.wrong(x, "(".repeat(22), 20);
            s.wrong(x, "(".repeat(20), 20);
            s.wrong(x, "(".repeat(20) + ")(" + "(", 22);
            s.due("20 open, closed and open again", Books.answer(x, "(".repeat(20) + ")()" + "a" + ")".repeat(19)), 1);
        });
        s.test(32, "more than 20 ( open: that one);", () -> {
            TextRows x = Books.of(1, "a(");
            String query = "(".repeat(20) + "\\([(]|a" + ")".repeat(20);
            s.due("( behind a \\ or in a [ is not open", Books.answer(x, query), 1);
            s.due("30 behind one another", Books.answer(x, "(a)|".repeat(30)), 1);
        });
    }

    private void tooGreat() {
        s.test(32, "- 1,000: it is too great (one with a wrong sign is not measured).", () -> {
            TextRows x = Books.of(1, "a".repeat(120));
            s.tooGreat(x, "a{99}a{22}");
            s.due("120", Books.answer(x, "a{99}a{21}"), 1);
            s.wrong(x, "a{99}a{22})", 10);
            s.wrong(x, "(a{99}a{22}", 11);
            s.wrong(x, "(a{99}){99}[b-a]", 14);
            s.wrong(x, "a{99}a{99}{", 10);
        });
    }

    private void lastAnswer() {
        s.test(32, "In both cases the last answer stays.", () -> {
            TextRows x = Books.of(1, "abab");
            Books.answer(x, "ab?");
            s.wrong(x, "b(", 2);
            s.due("answered(1, 0) behind a wrong one", x.answered(1, 0), 2);
            s.tooGreat(x, "b{99}b{99}");
            s.due("answered(1, 2) behind one that is too great", x.answered(1, 2), 2);
            s.due("answered(2, 0)", x.answered(2, 0), BAD);
            s.matches(x, "b", 1, 1, 1, 3, 1, 1);
            s.matches(x, "c");
            s.wrong(x, "]", 0);
            s.due("answered(0, 0): an answer of no places stays too", x.answered(0, 0), BAD);
        });
    }

    private void answered() {
        String sentence = "The k-th place where the query of the last answer matches, by place: 0 the place, 1 the "
                + "least "
                + "length, 2 the greatest one.";
        s.test(33, sentence, () -> {
            TextRows x = Books.of(1, "cab", "", "abab");
            s.matches(x, "(ab)+|a", 1, 1, 2, 5, 1, 4, 7, 1, 2);
            x.ask('z');
            s.due("signs that wait change nothing", x.answered(1, 2), 4);
            TextRows y = Books.of(1, "a".repeat(300));
            s.due("answer()", Books.answer(y, "a+"), 300);
            s.due("the greatest one is not bounded", y.answered(0, 2), 300);
            s.due("the last place", y.answered(299, 0), 299);
            s.due("one too many", y.answered(300, 0), BAD);
        });
        s.test(33, "BAD: none such", () -> {
            TextRows x = Books.of(1, "abab");
            Books.answer(x, "a");
            for (int k : Sentences.noneOf(2)) {
                for (int what = 0; what <= 2; what++) {
                    s.due("answered(" + k + ", " + what + ")", x.answered(k, what), BAD);
                }
            }
            for (int what : Sentences.noneOf(3)) {
                s.due("answered(0, " + what + ")", x.answered(0, what), BAD);
            }
        });
        s.test(33, "no answer.", () -> {
            TextRows x = Books.of(1, "abab");
            s.due("behind build()", x.answered(0, 0), BAD);
            x.ask('a');
            s.due("behind ask()", x.answered(0, 0), BAD);
            s.wrong(x, ")", 1);
            s.due("behind a wrong query alone", x.answered(0, 0), BAD);
            s.tooGreat(x, "b{99}b{99}");
            s.due("behind one that is too great alone", x.answered(0, 0), BAD);
        });
    }
}
