/** The borders that the document names for tokens: the term TOKENS, and promises 5 and 6. */
public final class TokenEdgeTest {
    private static final int NONE = Due.NONE;
    private static final String[] WORDS = {"class", "def", "del", "else", "for", "global", "if",
        "import", "in", "lambda", "nonlocal", "pass", "return", "while"};

    private static final Due DUE = new Due();

    public static void main(String[] args) {
        everyCharacterAlone();
        namesAreLongest();
        wordsAreNoNames();
        numbersAreLongest();
        signs();
        walrusFromTheLeft();
        blanksSeparate();
        comments();
        badCharacters();
        openIsCounted();
        openStaysAt0();
        lineFeedWhileOpen();
        lineFeedsEndLines();
        theEndEndsALine();
        linesWithoutTokens();
        blanksAtTheBeginning();
        rowBeginsWith0();
        moreIndentation();
        sameIndentation();
        lessIndentation();
        anotherIndentation();
        theRowStays();
        newlines();
        endOfTheText();
        placesOfUnwrittenTokens();
        howManyTokens();
        whatATokenAnswers();
        tokensThatAreNone();
        tokensOfEveryText();
        DUE.end("TokenEdgeTest");
    }

    // ---- what is written

    private static void everyCharacterAlone() {
        DUE.says("that begins with a letter or _");
        for (char c = 32; c <= 126; c++) {
            String alone = String.valueOf(c);
            String want = Character.isLetter(c) || c == '_' ? "NAME"
                : Character.isDigit(c) ? "NUMBER"
                : "()[],:=+".indexOf(c) >= 0 ? "SIGN"
                : " #".indexOf(c) >= 0 ? "" : "BAD";
            DUE.kindsAre(alone, want);
        }
    }

    private static void namesAreLongest() {
        DUE.says("A NAME is a longest run of letters (a .. z, A .. Z), digits and _");
        DUE.rowIs("azAZ09_", "NAME0-7 NEWLINE7-7 END7-7");
        DUE.rowIs("_", "NAME0-1 NEWLINE1-1 END1-1");
        DUE.rowIs("_0", "NAME0-2 NEWLINE2-2 END2-2");
        for (char c = 32; c <= 126; c++) {
            boolean goesOn = Character.isLetterOrDigit(c) || c == '_';
            int end = Due.server("a" + c + "b").token(0) >> 12;
            DUE.is("where the first token of a" + c + "b ends", end, goesOn ? 3 : 1);
        }
        DUE.rowIs("a".repeat(200), "NAME0-200 NEWLINE200-200 END200-200");
    }

    private static void wordsAreNoNames() {
        DUE.says("but these are WORDS: class, def, del, else, for, global, if, import, in, lambda,"
            + " nonlocal, pass, return, while");
        for (String word : WORDS) {
            int n = word.length();
            DUE.is(word, Due.server(word).token(0), 2 + 4096 * n);
            DUE.kindsAre(word + "1", "NAME");
            DUE.kindsAre(word + "_", "NAME");
            DUE.kindsAre("_" + word, "NAME");
            DUE.kindsAre("1" + word, "NUMBER WORD");
            DUE.kindsAre(word + "=", "WORD SIGN");
            DUE.kindsAre(word.toUpperCase(), "NAME");
            DUE.kindsAre(word.substring(0, 1).toUpperCase() + word.substring(1), "NAME");
            DUE.kindsAre(word.substring(0, n - 1), "NAME");
        }
        DUE.kindsAre("inin", "NAME");
        DUE.kindsAre("nonlocals", "NAME");
        DUE.kindsAre("i n", "NAME NAME");
        DUE.kindsAre("imports", "NAME");
        DUE.kindsAre("nonlocal".repeat(2), "NAME");
        DUE.kindsAre("and or not is None True", "NAME NAME NAME NAME NAME NAME");
    }

    private static void numbersAreLongest() {
        DUE.says("A NUMBER is a longest run of digits that does not begin within a NAME"
            + " (1a: a NUMBER and a NAME).");
        DUE.rowIs("1a", "NUMBER0-1 NAME1-2 NEWLINE2-2 END2-2");
        DUE.rowIs("a1", "NAME0-2 NEWLINE2-2 END2-2");
        DUE.rowIs("1a1", "NUMBER0-1 NAME1-3 NEWLINE3-3 END3-3");
        DUE.rowIs("12_34", "NUMBER0-2 NAME2-5 NEWLINE5-5 END5-5");
        DUE.rowIs("0123456789", "NUMBER0-10 NEWLINE10-10 END10-10");
        DUE.rowIs("1.2", "NUMBER0-1 BAD1-2 NUMBER2-3 NEWLINE3-3 END3-3");
        DUE.rowIs("7".repeat(200), "NUMBER0-200 NEWLINE200-200 END200-200");
    }

    private static void signs() {
        DUE.says("SIGNS are := ( ) [ ] , : = +");
        for (String sign : new String[] {":=", "(", ")", "[", "]", ",", ":", "=", "+"}) {
            int n = sign.length();
            DUE.is("token(0) of " + sign, Due.server(sign).token(0), 3 + 4096 * n);
            DUE.is("token(1) of a" + sign, Due.server("a" + sign).token(1), 3 + 16 + 4096 * (n + 1));
            DUE.kindsAre(sign + "a", "SIGN NAME");
            DUE.kindsAre(sign + " " + sign, "SIGN SIGN");
        }
        DUE.kindsAre("-*/<>!.;", "BAD BAD BAD BAD BAD BAD BAD BAD");
        DUE.kindsAre("+=", "SIGN SIGN");
        DUE.kindsAre("()[],:+", "SIGN SIGN SIGN SIGN SIGN SIGN SIGN");
    }

    private static void walrusFromTheLeft() {
        DUE.says(": and = right behind it are one :=, from the left: ::= is : and :=");
        DUE.rowIs(":=", "SIGN0-2 NEWLINE2-2 END2-2");
        DUE.rowIs("::=", "SIGN0-1 SIGN1-3 NEWLINE3-3 END3-3");
        DUE.rowIs(":=:=", "SIGN0-2 SIGN2-4 NEWLINE4-4 END4-4");
        DUE.rowIs(":==", "SIGN0-2 SIGN2-3 NEWLINE3-3 END3-3");
        DUE.rowIs("=:", "SIGN0-1 SIGN1-2 NEWLINE2-2 END2-2");
        DUE.rowIs(": =", "SIGN0-1 SIGN2-3 NEWLINE3-3 END3-3");
        DUE.rowIs("(:\n=", "SIGN0-1 SIGN1-2 SIGN3-4 NEWLINE4-4 END4-4");
        DUE.rowIs(":\n=", "SIGN0-1 NEWLINE1-1 SIGN2-3 NEWLINE3-3 END3-3");
        DUE.rowIs(":#=", "SIGN0-1 NEWLINE1-1 END3-3");
        DUE.rowIs("a:", "NAME0-1 SIGN1-2 NEWLINE2-2 END2-2");
        DUE.rowIs("==", "SIGN0-1 SIGN1-2 NEWLINE2-2 END2-2");
        DUE.rowIs("+" + ":".repeat(198) + "=", "SIGN0-1 " + signRow(1, 198) + "SIGN198-200"
            + " NEWLINE200-200 END200-200");
    }

    private static String signRow(int from, int to) {
        StringBuilder row = new StringBuilder();
        for (int p = from; p < to; p++) {
            row.append("SIGN").append(p).append('-').append(p + 1).append(' ');
        }
        return row.toString();
    }

    private static void blanksSeparate() {
        DUE.says("Blanks separate");
        DUE.rowIs("a b", "NAME0-1 NAME2-3 NEWLINE3-3 END3-3");
        DUE.rowIs("1 2", "NUMBER0-1 NUMBER2-3 NEWLINE3-3 END3-3");
        DUE.rowIs("i f", "NAME0-1 NAME2-3 NEWLINE3-3 END3-3");
        DUE.rowIs("a    b", "NAME0-1 NAME5-6 NEWLINE6-6 END6-6");
        DUE.rowIs("a+ b", "NAME0-1 SIGN1-2 NAME3-4 NEWLINE4-4 END4-4");
        DUE.rowIs(" ".repeat(200), "END200-200");
    }

    private static void comments() {
        DUE.says("# and all behind it up to the LF (or the end) mean nothing.");
        DUE.rowIs("#", "END1-1");
        DUE.rowIs("# a b ( ? :=", "END12-12");
        DUE.rowIs("a#b", "NAME0-1 NEWLINE1-1 END3-3");
        DUE.rowIs("a#b\nc", "NAME0-1 NEWLINE1-1 NAME4-5 NEWLINE5-5 END5-5");
        DUE.rowIs("a##\n#\nc", "NAME0-1 NEWLINE1-1 NAME6-7 NEWLINE7-7 END7-7");
        DUE.rowIs("#(\na\nb", "NAME3-4 NEWLINE4-4 NAME5-6 NEWLINE6-6 END6-6");
        DUE.rowIs("(#)\na)\nb", "SIGN0-1 NAME4-5 SIGN5-6 NEWLINE6-6 NAME7-8 NEWLINE8-8 END8-8");
        DUE.rowIs("a\n  #b\nc", "NAME0-1 NEWLINE1-1 NAME7-8 NEWLINE8-8 END8-8");
        DUE.rowIs("a" + "#".repeat(199), "NAME0-1 NEWLINE1-1 END200-200");
    }

    private static void badCharacters() {
        DUE.says("Any other character is a BAD token.");
        String bad = "!\"$%&'*-./;<>?@\\^`{|}~";
        for (int i = 0; i < bad.length(); i++) {
            char c = bad.charAt(i);
            DUE.rowIs("a" + c + "b", "NAME0-1 BAD1-2 NAME2-3 NEWLINE3-3 END3-3");
            DUE.rowIs("" + c + c, "BAD0-1 BAD1-2 NEWLINE2-2 END2-2");
        }
        DUE.is("tokens() of 200 of them", Due.server("?".repeat(200)).tokens(), 202);
    }

    // ---- open brackets and lines

    private static void openIsCounted() {
        DUE.says("OPEN is the number of ( and [ tokens so far less that of ) and ]");
        DUE.rowIs("(\n)\na", "SIGN0-1 SIGN2-3 NEWLINE3-3 NAME4-5 NEWLINE5-5 END5-5");
        DUE.rowIs("[\n]\na", "SIGN0-1 SIGN2-3 NEWLINE3-3 NAME4-5 NEWLINE5-5 END5-5");
        DUE.rowIs("(\n]\na", "SIGN0-1 SIGN2-3 NEWLINE3-3 NAME4-5 NEWLINE5-5 END5-5");
        DUE.rowIs("[\n)\na", "SIGN0-1 SIGN2-3 NEWLINE3-3 NAME4-5 NEWLINE5-5 END5-5");
        DUE.rowIs("([]\na", "SIGN0-1 SIGN1-2 SIGN2-3 NAME4-5 NEWLINE5-5 END5-5");
        DUE.rowIs("(()\n)\na", "SIGN0-1 SIGN1-2 SIGN2-3 SIGN4-5 NEWLINE5-5 NAME6-7 NEWLINE7-7"
            + " END7-7");
        String deep = "(".repeat(99) + ")".repeat(98);
        DUE.is("lines while 1 of 99 is open", Due.server(deep + "\na").tokens(), 200);
        DUE.is("lines when none of 99 is open", Due.server(deep + ")\na").tokens(), 202);
    }

    private static void openStaysAt0() {
        DUE.says("where a ) or ] at 0 leaves it 0");
        DUE.rowIs(")(\na", "SIGN0-1 SIGN1-2 NAME3-4 NEWLINE4-4 END4-4");
        DUE.rowIs("]](\na", "SIGN0-1 SIGN1-2 SIGN2-3 NAME4-5 NEWLINE5-5 END5-5");
        DUE.rowIs("]\n[\na", "SIGN0-1 NEWLINE1-1 SIGN2-3 NAME4-5 NEWLINE5-5 END5-5");
        DUE.rowIs(")\na", "SIGN0-1 NEWLINE1-1 NAME2-3 NEWLINE3-3 END3-3");
        DUE.rowIs("())[\na", "SIGN0-1 SIGN1-2 SIGN2-3 SIGN3-4 NAME5-6 NEWLINE6-6 END6-6");
    }

    private static void lineFeedWhileOpen() {
        DUE.says("An LF while OPEN is above 0 is like a blank.");
        DUE.rowIs("(a\nb", "SIGN0-1 NAME1-2 NAME3-4 NEWLINE4-4 END4-4");
        DUE.rowIs("(1\n2", "SIGN0-1 NUMBER1-2 NUMBER3-4 NEWLINE4-4 END4-4");
        DUE.rowIs("(\n\n\na)", "SIGN0-1 NAME4-5 SIGN5-6 NEWLINE6-6 END6-6");
        DUE.rowIs("(\n   a)\nb", "SIGN0-1 NAME5-6 SIGN6-7 NEWLINE7-7 NAME8-9 NEWLINE9-9 END9-9");
        DUE.rowIs(" (\na)\n b", "INDENT1-1 SIGN1-2 NAME3-4 SIGN4-5 NEWLINE5-5 NAME7-8 NEWLINE8-8"
            + " DEDENT8-8 END8-8");
    }

    private static void lineFeedsEndLines() {
        DUE.says("Any other LF ends a LOGICAL LINE");
        DUE.rowIs("a\nb", "NAME0-1 NEWLINE1-1 NAME2-3 NEWLINE3-3 END3-3");
        DUE.rowIs("a\n", "NAME0-1 NEWLINE1-1 END2-2");
        DUE.rowIs("+\n+", "SIGN0-1 NEWLINE1-1 SIGN2-3 NEWLINE3-3 END3-3");
        DUE.rowIs("()\na", "SIGN0-1 SIGN1-2 NEWLINE2-2 NAME3-4 NEWLINE4-4 END4-4");
    }

    private static void theEndEndsALine() {
        DUE.says("the end of the text does too, always (also while OPEN is above 0)");
        DUE.rowIs("a", "NAME0-1 NEWLINE1-1 END1-1");
        DUE.rowIs("(", "SIGN0-1 NEWLINE1-1 END1-1");
        DUE.rowIs("[\n", "SIGN0-1 NEWLINE1-1 END2-2");
        DUE.rowIs("a\n (b\n", "NAME0-1 NEWLINE1-1 INDENT3-3 SIGN3-4 NAME4-5 NEWLINE5-5"
            + " DEDENT6-6 END6-6");
        DUE.rowIs("( #", "SIGN0-1 NEWLINE1-1 END3-3");
    }

    private static void linesWithoutTokens() {
        DUE.says("A logical line without tokens means nothing.");
        DUE.rowIs("\n", "END1-1");
        DUE.rowIs("\n\n\n", "END3-3");
        DUE.rowIs("   \n #\n", "END7-7");
        DUE.rowIs("\na", "NAME1-2 NEWLINE2-2 END2-2");
        DUE.rowIs("a\n\n   \n  #\nb", "NAME0-1 NEWLINE1-1 NAME11-12 NEWLINE12-12 END12-12");
        DUE.rowIs("a\n b\n\n#\n c", "NAME0-1 NEWLINE1-1 INDENT3-3 NAME3-4 NEWLINE4-4 NAME9-10"
            + " NEWLINE10-10 DEDENT10-10 END10-10");
        DUE.rowIs("a\n b\n   ", "NAME0-1 NEWLINE1-1 INDENT3-3 NAME3-4 NEWLINE4-4 DEDENT8-8 END8-8");
        DUE.is("tokens() of 200 LF", Due.server("\n".repeat(200)).tokens(), 1);
    }

    // ---- indentation

    private static void blanksAtTheBeginning() {
        DUE.says("One with tokens has an INDENTATION, the number of blanks at its beginning");
        DUE.rowIs("  a  b", "INDENT2-2 NAME2-3 NAME5-6 NEWLINE6-6 DEDENT6-6 END6-6");
        DUE.rowIs("a  \nb", "NAME0-1 NEWLINE1-1 NAME4-5 NEWLINE5-5 END5-5");
        DUE.rowIs("   \na", "NAME4-5 NEWLINE5-5 END5-5");
        DUE.rowIs("  \n a", "INDENT4-4 NAME4-5 NEWLINE5-5 DEDENT5-5 END5-5");
        DUE.rowIs(" (\n    a)\n b", "INDENT1-1 SIGN1-2 NAME7-8 SIGN8-9 NEWLINE9-9 NAME11-12 NEWLINE12-12"
            + " DEDENT12-12 END12-12");
    }

    private static void rowBeginsWith0() {
        DUE.says("a row of INDENTS begins with 0 alone");
        DUE.rowIs("a", "NAME0-1 NEWLINE1-1 END1-1");
        DUE.rowIs(" a", "INDENT1-1 NAME1-2 NEWLINE2-2 DEDENT2-2 END2-2");
        BindingServer x = Due.server(" a");
        x.tokens();
        x.edit(0, 1, 0);
        DUE.is("tokens() of another text after it", x.tokens(), 3);
    }

    private static void moreIndentation() {
        DUE.says("if the indentation is more than the last of the row, it is put at the end of the"
            + " row, and an INDENT token comes before its first token");
        DUE.rowIs("a\n b\n  c", "NAME0-1 NEWLINE1-1 INDENT3-3 NAME3-4 NEWLINE4-4 INDENT7-7 NAME7-8"
            + " NEWLINE8-8 DEDENT8-8 DEDENT8-8 END8-8");
        DUE.rowIs("a\n      b", "NAME0-1 NEWLINE1-1 INDENT8-8 NAME8-9 NEWLINE9-9 DEDENT9-9 END9-9");
        DUE.rowIs(" ".repeat(199) + "a", "INDENT199-199 NAME199-200 NEWLINE200-200 DEDENT200-200"
            + " END200-200");
        StringBuilder stairs = new StringBuilder("a");
        for (int i = 1; i <= 17; i++) {
            stairs.append('\n').append(" ".repeat(i)).append('a');
        }
        BindingServer x = Due.server(stairs.toString());
        DUE.is("tokens() of stairs of 188", x.tokens(), 18 * 2 + 17 + 17 + 1);
        DUE.is("its last NEWLINE", x.token(52), 4 + 16 * 188 + 4096 * 188);
        DUE.is("its first DEDENT", x.token(53), 6 + 16 * 188 + 4096 * 188);
        DUE.is("its last DEDENT", x.token(69), 6 + 16 * 188 + 4096 * 188);
        BindingServer down = Due.server(stairs + "\na");
        DUE.is("tokens() of stairs and down again", down.tokens(), 18 * 2 + 17 + 17 + 3);
        DUE.is("its last DEDENT", down.token(69), 6 + 16 * 189 + 4096 * 189);
    }

    /** As much is neither more nor less. */
    private static void sameIndentation() {
        DUE.says("if it is less, all that are more are taken from the end of the row");
        DUE.rowIs(" a\n b", "INDENT1-1 NAME1-2 NEWLINE2-2 NAME4-5 NEWLINE5-5 DEDENT5-5 END5-5");
        DUE.rowIs("a\nb", "NAME0-1 NEWLINE1-1 NAME2-3 NEWLINE3-3 END3-3");
        DUE.rowIs(" a\n  b\n c", "INDENT1-1 NAME1-2 NEWLINE2-2 INDENT5-5 NAME5-6 NEWLINE6-6"
            + " DEDENT8-8 NAME8-9 NEWLINE9-9 DEDENT9-9 END9-9");
    }

    private static void lessIndentation() {
        DUE.says("with a DEDENT token for each before its first token");
        DUE.rowIs(" a\nb", "INDENT1-1 NAME1-2 NEWLINE2-2 DEDENT3-3 NAME3-4 NEWLINE4-4 END4-4");
        DUE.rowIs(" a\n  b\nc", "INDENT1-1 NAME1-2 NEWLINE2-2 INDENT5-5 NAME5-6 NEWLINE6-6"
            + " DEDENT7-7 DEDENT7-7 NAME7-8 NEWLINE8-8 END8-8");
        DUE.rowIs(" a\n  b\n   c\n d", "INDENT1-1 NAME1-2 NEWLINE2-2 INDENT5-5 NAME5-6 NEWLINE6-6"
            + " INDENT10-10 NAME10-11 NEWLINE11-11 DEDENT13-13 DEDENT13-13 NAME13-14 NEWLINE14-14"
            + " DEDENT14-14 END14-14");
    }

    private static void anotherIndentation() {
        DUE.says("if then the last is still another number, a BAD token behind these");
        DUE.rowIs("  a\n b", "INDENT2-2 NAME2-3 NEWLINE3-3 DEDENT5-5 BAD5-5 NAME5-6 NEWLINE6-6"
            + " END6-6");
        DUE.rowIs(" a\n   b\n  c", "INDENT1-1 NAME1-2 NEWLINE2-2 INDENT6-6 NAME6-7 NEWLINE7-7"
            + " DEDENT10-10 BAD10-10 NAME10-11 NEWLINE11-11 DEDENT11-11 END11-11");
        DUE.rowIs("  a\n    b\n c", "INDENT2-2 NAME2-3 NEWLINE3-3 INDENT8-8 NAME8-9 NEWLINE9-9"
            + " DEDENT11-11 DEDENT11-11 BAD11-11 NAME11-12 NEWLINE12-12 END12-12");
    }

    private static void theRowStays() {
        DUE.says("the row stays as it is then: the next line is held against its last number");
        DUE.rowIs("   a\n  b\n  c", "INDENT3-3 NAME3-4 NEWLINE4-4 DEDENT7-7 BAD7-7 NAME7-8 NEWLINE8-8"
            + " INDENT11-11 NAME11-12 NEWLINE12-12 DEDENT12-12 END12-12");
        DUE.rowIs("   a\n  b\n c", "INDENT3-3 NAME3-4 NEWLINE4-4 DEDENT7-7 BAD7-7 NAME7-8 NEWLINE8-8"
            + " INDENT10-10 NAME10-11 NEWLINE11-11 DEDENT11-11 END11-11");
        DUE.rowIs("   a\n  b\nc", "INDENT3-3 NAME3-4 NEWLINE4-4 DEDENT7-7 BAD7-7 NAME7-8 NEWLINE8-8"
            + " NAME9-10 NEWLINE10-10 END10-10");
        DUE.rowIs(" a\n   b\n  c\n d", "INDENT1-1 NAME1-2 NEWLINE2-2 INDENT6-6 NAME6-7 NEWLINE7-7"
            + " DEDENT10-10 BAD10-10 NAME10-11 NEWLINE11-11 NAME13-14 NEWLINE14-14 DEDENT14-14"
            + " END14-14");
    }

    private static void newlines() {
        DUE.says("After its last token comes a NEWLINE.");
        DUE.rowIs("a b   # c\n", "NAME0-1 NAME2-3 NEWLINE3-3 END10-10");
        DUE.rowIs("?\n", "BAD0-1 NEWLINE1-1 END2-2");
        DUE.rowIs("(\n) \n", "SIGN0-1 SIGN2-3 NEWLINE3-3 END5-5");
    }

    private static void endOfTheText() {
        DUE.says("At the end of the text: a DEDENT for each indent above 0, then END.");
        DUE.rowIs(" a\n  b", "INDENT1-1 NAME1-2 NEWLINE2-2 INDENT5-5 NAME5-6 NEWLINE6-6 DEDENT6-6"
            + " DEDENT6-6 END6-6");
        DUE.rowIs("a", "NAME0-1 NEWLINE1-1 END1-1");
        DUE.rowIs("  a\n b", "INDENT2-2 NAME2-3 NEWLINE3-3 DEDENT5-5 BAD5-5 NAME5-6 NEWLINE6-6"
            + " END6-6");
    }

    private static void placesOfUnwrittenTokens() {
        DUE.says("DEDENT and END at the end stand at the text's length");
        DUE.rowIs(" a\n\n  # b\n", "INDENT1-1 NAME1-2 NEWLINE2-2 DEDENT10-10 END10-10");
        DUE.rowIs(" a  ", "INDENT1-1 NAME1-2 NEWLINE2-2 DEDENT4-4 END4-4");
        DUE.rowIs("  ", "END2-2");
        DUE.says("INDENT, DEDENT and BAD here have no length and stand where the first token of their line"
            + " begins; NEWLINE has none and stands where the token before it ends");
        DUE.rowIs("\n\n  ab  \n\n c", "INDENT4-4 NAME4-6 NEWLINE6-6 DEDENT11-11 BAD11-11 NAME11-12"
            + " NEWLINE12-12 END12-12");
    }

    // ---- promises 5 and 6

    private static void howManyTokens() {
        DUE.says("How many tokens there are, END included.");
        DUE.is("of an empty text", new BindingServer().tokens(), 1);
        DUE.is("of one token", Due.server("a").tokens(), 3);
        DUE.is("of an indented one", Due.server(" a").tokens(), 5);
        DUE.is("of 200 signs", Due.server("+".repeat(200)).tokens(), 202);
        DUE.is("of a full saw", Due.server("a\n a\n".repeat(40)).tokens(), 241);
        DUE.is("of a saw with teeth of two", Due.server("  a\n a\n".repeat(28)).tokens(), 28 * 7 + 1);
        DUE.is("of lines of one", Due.server("a\n".repeat(100)).tokens(), 201);
    }

    private static void tokenIs(String text, int k, int kind, int begin, int end) {
        DUE.is("token(" + k + ") of " + Due.shown(text), Due.server(text).token(k),
            kind + 16 * begin + 4096 * end);
    }

    private static void whatATokenAnswers() {
        DUE.says("its kind (0 NAME, 1 NUMBER, 2 WORD, 3 SIGN, 4 NEWLINE, 5 INDENT, 6 DEDENT, 7 END,"
            + " 8 BAD), plus 16 times the place where it begins, plus 4096 times the one where it ends"
            + " (behind its last character)");
        String text = " ab 12 if\n:=?";
        tokenIs(text, 0, 5, 1, 1);
        tokenIs(text, 1, 0, 1, 3);
        tokenIs(text, 2, 1, 4, 6);
        tokenIs(text, 3, 2, 7, 9);
        tokenIs(text, 4, 4, 9, 9);
        tokenIs(text, 5, 6, 10, 10);
        tokenIs(text, 6, 3, 10, 12);
        tokenIs(text, 7, 8, 12, 13);
        tokenIs(text, 8, 4, 13, 13);
        tokenIs(text, 9, 7, 13, 13);
        String full = "a" + " ".repeat(198) + "b";
        tokenIs(full, 0, 0, 0, 1);
        tokenIs(full, 1, 0, 199, 200);
        tokenIs(full, 2, 4, 200, 200);
        tokenIs(full, 3, 7, 200, 200);
    }

    private static void tokensThatAreNone() {
        DUE.says("NONE when there is none. (Of every text.)");
        for (String text : new String[] {"", "a", " a", "a\n", "a b)", "a\n a\n".repeat(40)}) {
            BindingServer x = Due.server(text);
            int n = x.tokens();
            DUE.is("the last", x.token(n - 1), 7 + 16 * text.length() + 4096 * text.length());
            for (int k : new int[] {n, n + 1, -1, -n, Integer.MIN_VALUE, Integer.MAX_VALUE}) {
                DUE.is("token(" + k + ") of " + Due.shown(text), x.token(k), NONE);
            }
        }
        BindingServer shorter = Due.server("a b c");
        DUE.is("token(4)", shorter.token(4), 7 + 16 * 5 + 4096 * 5);
        shorter.edit(1, 4, 0);
        DUE.is("token(3) of what was longer", shorter.token(3), NONE);
    }

    private static void tokensOfEveryText() {
        DUE.says("(Of every text.)");
        BindingServer faulty = Due.server("a b");
        DUE.is("check()", faulty.check(), 20);
        DUE.is("tokens() of a text with a fault", faulty.tokens(), 4);
        DUE.is("token(1) of a text with a fault", faulty.token(1), 16 * 2 + 4096 * 3);
        DUE.is("token(0) of a text with a fault", faulty.token(0), 4096);
        BindingServer wrong = Due.server("return");
        DUE.is("check()", wrong.check(), 7);
        DUE.is("tokens() of a text with an error", wrong.tokens(), 3);
        DUE.is("token(0) of a text with an error", wrong.token(0), 2 + 4096 * 6);
    }
}
