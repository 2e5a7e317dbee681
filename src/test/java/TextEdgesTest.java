/** Section 6 of the document and the promises 6 and 17 to 19: the edges of the text, by a test for each sentence. */
public final class TextEdgesTest extends Checks {

    private static final String LETTERS = "abcdefghijklmnopqrstuvwxyz";

    private static void right(String text, String row) {
        Cachebench x = typeAll(new Cachebench(), text);
        due("the error of \"" + text + "\"", x.errorPlace(), -1);
        due("requests of \"" + text + "\"", answerOf(() -> x.run()), row.replace("!", "").length());
        due("the row of \"" + text + "\"", rowOf(x), row);
    }

    private static void wrongAt(int place, String text) {
        Cachebench x = typeAll(new Cachebench(), text);
        due("the error of \"" + text + "\"", x.errorPlace(), place);
        refused("to run \"" + text + "\"", NUMBER, () -> x.run());
        due("nothing is made by \"" + text + "\"", x.rowLength(), 0);
        due("the text stays", x.clearText(), text.length());
    }

    // ---- the length

    /** The text has at most 200 bytes. */
    static void aFullText() {
        Cachebench x = new Cachebench();
        for (int length = 1; length <= 200; length++) due("length", x.type('a'), length);
        refused("the byte 201", STATE, () -> x.type('a'));
        refused("a wrong byte is told first", NUMBER, () -> x.type(256));
        due("no error", x.errorPlace(), -1);
        due("all of it is told", x.run(), 200);
        refused("running leaves it full", STATE, () -> x.type('a'));
        due("its length", x.clearText(), 200);
        due("there is room again", x.type('b'), 1);
        due("only that is told", x.run(), 1);
    }

    static void aFullTextThatEndsTooEarly() {
        wrongAt(200, "a".repeat(199) + "2");
        wrongAt(200, "2(" + "a".repeat(198));
        wrongAt(199, "a".repeat(199) + "0");
        wrongAt(199, " ".repeat(199) + "!");
        wrongAt(199, "a!".repeat(99) + "a)");
        right("a!".repeat(100), "a!".repeat(100));
        right(" ".repeat(195) + "2(ab)", "abab");
    }

    /** An empty text has no error; its length is 0. */
    static void anEmptyText() {
        Cachebench x = new Cachebench();
        due("no error", x.errorPlace(), -1);
        due("length", x.clearText(), 0);
        due("none", x.run(), 0);
        typeAll(x, "a!!");
        due("an error", x.errorPlace(), 2);
        due("length", x.clearText(), 3);
        due("no error any more", x.errorPlace(), -1);
        due("length", x.clearText(), 0);
    }

    /** What was in the text before it was emptied is no part of it. */
    static void aTextBehindAnother() {
        Cachebench x = typeAll(new Cachebench(), "123(a!)b!");
        due("a number of one digit", typeAll(x, "1").errorPlace(), 1);
        due("a number of two digits", typeAll(x, "12").errorPlace(), 2);
        due("two letters", ask(x, "ab"), 2);
        due("both to read", rowOf(x), "ab");
    }

    /** A byte, 0 to 255: each is taken, whether it fits or not. */
    static void eachByte() {
        for (int c = 0; c <= 255; c++) {
            Cachebench x = new Cachebench();
            due("the byte " + c, x.type(c), 1);
            boolean isLetter = c >= 'a' && c <= 'z';
            boolean isNumber = c >= '1' && c <= '9';
            due("the error of the byte " + c, x.errorPlace(), isLetter || c == ' ' ? -1 : isNumber ? 1 : 0);
            Cachebench y = typeAll(new Cachebench(), "b" + (char) c);
            boolean fits = isLetter || c == ' ' || c == '!';
            due("the error of the byte " + c + " behind a letter", y.errorPlace(), fits ? -1 : isNumber ? 2 : 1);
            Cachebench z = typeAll(new Cachebench(), "3" + (char) c + "a)");
            int behindDigit = c == '(' ? -1 : c == ' ' ? 2 : c >= '0' && c <= '9' ? 2 : 1;
            due("the error of the byte " + c + " behind a digit", z.errorPlace(), behindDigit);
        }
    }

    // ---- letters

    /** A letter a to z asks for the keys 0 to 25, with "!" to write, otherwise to read. */
    static void eachLetter() {
        right(LETTERS, LETTERS);
        Cachebench x = typeAll(new Cachebench(), "az!");
        x.run();
        due("the first and the last", x.requestAt(0, 0) + " " + x.requestAt(0, 1) + " " + x.requestAt(1, 0) + " " + x.requestAt(1, 1), "0 0 25 1");
        wrongAt(0, "`");
        wrongAt(0, "{");
        wrongAt(0, "A");
        wrongAt(1, "aZ");
    }

    static void writes() {
        right("a!b", "a!b");
        right("a !", "a!");
        right("a   !b", "a!b");
        wrongAt(0, "!");
        wrongAt(1, " !");
        wrongAt(2, "a!!");
        wrongAt(3, "a! !");
        wrongAt(2, "2(!)");
        wrongAt(4, "2(a)!");
        wrongAt(1, "2!");
        right("2(a!)b", "a!a!b");
        right("2(ab!)", "ab!ab!");
    }

    // ---- blanks

    /** Blanks (32) may stand anywhere, but not within a number. */
    static void blanks() {
        right(" ", "");
        right("  a  ", "a");
        right(" 2 ( a ! 3 ( b ) c ) d ", "a!bbbca!bbbcd");
        right("12 (a)", "a".repeat(12));
        wrongAt(2, "1 2(a)");
        wrongAt(3, "1  2(a)");
        wrongAt(1, "a\tb");
        wrongAt(0, "\n");
        wrongAt(1, "a" + (char) 160);
        wrongAt(0, "" + (char) 0);
        wrongAt(0, "" + (char) 255);
    }

    // ---- numbers

    /** 1 to 50, told by one or two digits. */
    static void eachNumber() {
        for (int number = 0; number <= 120; number++) {
            String text = number + "(a)";
            if (number >= 1 && number <= 50) right(text, "a".repeat(number));
            else wrongAt(0, text);
            String padded = "0" + text;
            if (number >= 1 && number <= 9) right(padded, "a".repeat(number));
            else wrongAt(0, padded);
        }
        wrongAt(0, "000(a)");
        wrongAt(0, "0001(a)");
        wrongAt(0, "99999999999999999999(a)");
        wrongAt(0, "4294967297(a)");
    }

    /** Of a number that is not right its first digit; which is ahead of its parenthesis. */
    static void theFirstDigitOfAWrongNumber() {
        wrongAt(1, "a51(b)");
        wrongAt(2, "a 0(b)");
        wrongAt(3, "2(a0(b))");
        wrongAt(2, "2(100(b))");
        wrongAt(0, "51 (");
        wrongAt(0, "51a");
        wrongAt(0, "0)");
        wrongAt(0, "51");
        wrongAt(0, "0");
        wrongAt(0, "123");
        wrongAt(4, "2(a)60");
        wrongAt(0, "0(!)");
    }

    /** A number is told by its parenthesis: another byte behind it does not fit. */
    static void aNumberWithoutAParenthesis() {
        wrongAt(1, "2a");
        wrongAt(1, "2)");
        wrongAt(2, "50!");
        wrongAt(2, "2 a");
        wrongAt(3, "2(3)");
        wrongAt(4, "2(3 )");
    }

    // ---- parentheses

    static void parenthesesWithoutANumber() {
        wrongAt(0, "(a)");
        wrongAt(1, "a(b)");
        wrongAt(2, "2((a))");
        wrongAt(4, "2(a)(b)");
        wrongAt(0, ")");
        wrongAt(1, "a)");
        wrongAt(4, "2(a))");
    }

    static void emptyParentheses() {
        right("1()", "");
        right("50( )", "");
        right("3(2(1()))a", "a");
        right("50(50(50()))b", "b");
    }

    /** Parentheses may stand within one another, at most three of them. */
    static void threeWithinOneAnother() {
        right("2(a2(b2(c)))", "abccbccabccbcc");
        right("1(1(1(a)))1(1(1(b)))", "ab");
        right("1(1(1(a)1(b))1(1(c)))", "abc");
    }

    /** Of a fourth parenthesis within others the parenthesis. */
    static void aFourthWithinThree() {
        wrongAt(7, "1(1(1(1(a))))");
        wrongAt(8, "1(1(1(12(a))))");
        wrongAt(9, "1(1(1(12 (a))))");
        wrongAt(12, "1(1(1(a)1(b1(c))))");
        wrongAt(7, "1(1(1(1(");
        wrongAt(7, "1(1(1(1a");
        wrongAt(6, "1(1(1(0(a))))");
        wrongAt(6, "1(1(1(51(a))))");
        wrongAt(7, "1(1(1(1");
    }

    /** Or the length of the text, if it ends too early. */
    static void textsThatEndTooEarly() {
        wrongAt(1, "2");
        wrongAt(2, "50");
        wrongAt(2, "2 ");
        wrongAt(2, "2(");
        wrongAt(3, "2( ");
        wrongAt(3, "2(a");
        wrongAt(4, "2(a!");
        wrongAt(5, "2(3(a");
        wrongAt(6, "2(3(a)");
        wrongAt(3, "2(3");
        wrongAt(6, "1(1(1(");
        wrongAt(5, "2(a)3");
    }

    /** The first byte that does not fit: of several errors the first. */
    static void theFirstOfSeveralErrors() {
        wrongAt(0, "!!)(0");
        wrongAt(1, "a)!(");
        wrongAt(2, "2(0(a)!");
        wrongAt(3, "2(a(b");
    }

    // ---- what is told

    static void howManyTimes() {
        right("1(a)", "a");
        right("50(a)", "a".repeat(50));
        right("5(2(3(ab)))", "ab".repeat(30));
        right("3(a2(b)2(c))", "abbccabbccabbcc");
        right("2(2(a)3(b!))", "aab!b!b!aab!b!b!");
    }

    /** As many as the row takes, and one more; far more, told in parentheses. */
    static void asManyAsTheRowTakes() {
        right("50(abcdef)", "abcdef".repeat(50));
        right("50(2(abc!))", "abc!".repeat(100));
        for (String text : new String[] {"50(abcdef)a", "a50(abcdef)", "43(abcdefg)", "50(50(50(" + "a".repeat(188) + ")))",
            "50(50(50(a)))50(50(50(b)))"}) {
            Cachebench x = typeAll(new Cachebench(), text);
            due("no error of " + text, x.errorPlace(), -1);
            refused("too many of " + text, STATE, () -> x.run());
            due("nothing is made", x.rowLength(), 0);
        }
    }

    static void errorsAreAskedForAgain() {
        Cachebench x = typeAll(new Cachebench(), "2(a");
        due("too early", x.errorPlace(), 3);
        due("asked again", x.errorPlace(), 3);
        x.type(')');
        due("no error any more", x.errorPlace(), -1);
        due("run", x.run(), 2);
        x.type(')');
        due("an error", x.errorPlace(), 4);
        refused("run", NUMBER, () -> x.run());
    }

    public static void main(String[] args) {
        runAll(TextEdgesTest.class);
    }
}
