/** The borders that the document names for a new object and for the text: promises 1 to 4. */
public final class TextEdgeTest {
    private static final int NONE = Due.NONE;
    private static final int FULL = Due.FULL;
    private static final int MIN = Integer.MIN_VALUE;
    private static final int MAX = Integer.MAX_VALUE;

    private static final Due DUE = new Due();

    public static void main(String[] args) {
        anEmptyText();
        oneToken();
        oneScope();
        noOccurrences();
        nothingIsAtAnyPlace();
        atMost200();
        theCharacters();
        placesBeginAt0();
        cutIsReplaced();
        highestToLowest();
        zerosAreLeftOut();
        answersTheLength();
        atIsOutside();
        cutIsOutside();
        aByteIsNoCharacter();
        fullComesLast();
        length();
        character();
        DUE.end("TextEdgeTest");
    }

    // ---- promise 1

    private static void anEmptyText() {
        DUE.says("An empty text (it is fine");
        DUE.is("length()", new BindingServer().length(), 0);
        DUE.is("check()", new BindingServer().check(), 0);
        DUE.is("place()", new BindingServer().place(), NONE);
        BindingServer first = Due.server("a b");
        DUE.is("length() beside another object", new BindingServer().length(), 0);
        DUE.is("length() of that one", first.length(), 3);
    }

    private static void oneToken() {
        DUE.says("one token, END");
        DUE.is("tokens()", new BindingServer().tokens(), 1);
        DUE.is("token(0)", new BindingServer().token(0), 7);
        DUE.is("token(1)", new BindingServer().token(1), NONE);
        BindingServer emptied = Due.server("if a:\n (b");
        emptied.edit(0, 9, 0);
        DUE.is("tokens() of an emptied text", emptied.tokens(), 1);
        DUE.is("token(0) of an emptied text", emptied.token(0), 7);
    }

    private static void oneScope() {
        DUE.says("one scope");
        DUE.is("scopes()", new BindingServer().scopes(), 1);
        DUE.is("scope(0)", new BindingServer().scope(0), 0);
        DUE.is("scope(1)", new BindingServer().scope(1), NONE);
    }

    private static void noOccurrences() {
        DUE.says("no occurrences");
        DUE.is("names()", new BindingServer().names(), 0);
        DUE.is("name(0)", new BindingServer().name(0), NONE);
    }

    private static void nothingIsAtAnyPlace() {
        DUE.says("There is no such thing");
        for (int p : new int[] {0, 1, -1, MIN, MAX}) {
            BindingServer x = new BindingServer();
            DUE.is("character(" + p + ")", x.character(p), NONE);
            DUE.is("extent(" + p + ", 0)", x.extent(p, 0), NONE);
            DUE.is("resolve(" + p + ")", x.resolve(p), NONE);
            DUE.is("definition(" + p + ")", x.definition(p), NONE);
            DUE.is("reference(" + p + ", 0)", x.reference(p, 0), NONE);
            DUE.is("rename(" + p + ", a)", x.rename(p, 'a'), NONE);
        }
    }

    // ---- THE TEXT, and promise 2

    private static void atMost200() {
        DUE.says("THE TEXT has at most 200 characters");
        BindingServer x = new BindingServer();
        for (int i = 1; i <= 200; i++) {
            DUE.is("the edit to " + i, x.edit(i - 1, 0, 'a'), i);
        }
        DUE.is("the edit to 201", x.edit(200, 0, 'a'), FULL);
        DUE.is("length()", x.length(), 200);
        DUE.is("one less", x.edit(100, 1, 0), 199);
        DUE.is("and room for one", x.edit(0, 0, 'b'), 200);
        DUE.is("but not for two", x.edit(0, 0, 'b'), FULL);
    }

    private static void theCharacters() {
        DUE.says("10 (LF) and 32 .. 126");
        for (long b = 1; b < 256; b++) {
            boolean character = b == 10 || b >= 32 && b <= 126;
            BindingServer x = new BindingServer();
            DUE.is("edit with byte " + b, x.edit(0, 0, b), character ? 1 : NONE);
            DUE.is("then character(0)", x.character(0), character ? b : NONE);
            BindingServer high = new BindingServer();
            DUE.is("edit with highest byte " + b, high.edit(0, 0, b << 56), character ? 1 : NONE);
            DUE.is("then character(0)", high.character(0), character ? b : NONE);
        }
    }

    private static void placesBeginAt0() {
        DUE.says("its places are 0, 1, ..");
        BindingServer x = Due.server("abc");
        DUE.is("character(0)", x.character(0), 'a');
        DUE.is("character(1)", x.character(1), 'b');
        DUE.is("character(2)", x.character(2), 'c');
    }

    private static void editIs(String text, int at, int cut, String put, String after) {
        BindingServer x = Due.server(text);
        String call = "edit(" + at + ", " + cut + ", " + put + ") of " + Due.shown(text);
        DUE.is(call, x.edit(at, cut, Due.eight(put)), after.length());
        DUE.same(call + " makes", Due.textOf(x), after);
    }

    private static void cutIsReplaced() {
        DUE.says("The cut characters from place at on are replaced by the characters");
        editIs("", 0, 0, "", "");
        editIs("", 0, 0, "a", "a");
        editIs("abc", 0, 0, "x", "xabc");
        editIs("abc", 3, 0, "x", "abcx");
        editIs("abc", 0, 1, "x", "xbc");
        editIs("abc", 2, 1, "x", "abx");
        editIs("abc", 0, 3, "x", "x");
        editIs("abc", 0, 3, "", "");
        editIs("abc", 1, 1, "", "ac");
        editIs("abc", 1, 2, "", "a");
        editIs("abc", 3, 0, "", "abc");
        editIs("abc", 1, 1, "12345678", "a12345678c");
        editIs("abcdefghijk", 1, 9, "1", "a1k");
        String full = "ab".repeat(100);
        editIs(full, 0, 200, "", "");
        editIs(full, 0, 200, "x", "x");
        editIs(full, 199, 1, "x", full.substring(0, 199) + "x");
        editIs(full, 200, 0, "", full);
        editIs(full, 0, 8, "12345678", "12345678" + full.substring(8));
        editIs(full, 192, 8, "12345678", full.substring(0, 192) + "12345678");
        editIs(full, 0, 1, "", full.substring(1));
    }

    private static void highestToLowest() {
        DUE.says("the bytes of eight, from the highest to the lowest");
        BindingServer x = new BindingServer();
        DUE.is("edit", x.edit(0, 0, 0x6162636465666768L), 8);
        DUE.same("text", Due.textOf(x), "abcdefgh");
    }

    private static void zerosAreLeftOut() {
        DUE.says("zeros left out");
        BindingServer x = new BindingServer();
        DUE.is("nothing but zeros", x.edit(0, 0, 0L), 0);
        DUE.is("zeros in front", x.edit(0, 0, 0x61L), 1);
        DUE.is("zeros behind", x.edit(1, 0, 0x6200000000000000L), 2);
        DUE.is("zeros between", x.edit(2, 0, 0x6300640000006500L), 5);
        DUE.is("zeros at both ends", x.edit(5, 0, 0x0066000000670000L), 7);
        DUE.same("text", Due.textOf(x), "abcdefg");
        BindingServer near = Due.server("a".repeat(199));
        DUE.is("a zero takes no room", near.edit(199, 0, 0x0000620000000000L), 200);
    }

    private static void answersTheLength() {
        DUE.says("Answers the text's length then.");
        BindingServer x = new BindingServer();
        DUE.is("by eight", x.edit(0, 0, Due.eight("abcdefgh")), 8);
        DUE.is("by none", x.edit(4, 0, 0), 8);
        DUE.is("by as many as are cut", x.edit(4, 2, Due.eight("xy")), 8);
        DUE.is("by fewer", x.edit(4, 4, Due.eight("x")), 5);
        DUE.is("to nothing", x.edit(0, 5, 0), 0);
        DUE.is("length()", x.length(), 0);
    }

    private static void refusesEdit(String text, int at, int cut, long eight, int refusal) {
        BindingServer x = Due.server(text);
        String call = "edit(" + at + ", " + cut + ", " + eight + ") of " + Due.shown(text);
        DUE.is(call, x.edit(at, cut, eight), refusal);
        DUE.same(call + " leaves", Due.textOf(x), text);
    }

    private static void atIsOutside() {
        DUE.says("NONE when at is not 0 .. length");
        for (long eight : new long[] {0, 'z'}) {
            refusesEdit("abc", -1, 0, eight, NONE);
            refusesEdit("abc", -1, 1, eight, NONE);
            refusesEdit("abc", 4, 0, eight, NONE);
            refusesEdit("abc", 4, -1, eight, NONE);
            refusesEdit("", 1, 0, eight, NONE);
            refusesEdit("", -1, 0, eight, NONE);
            refusesEdit("abc", MIN, 0, eight, NONE);
            refusesEdit("abc", MAX, 0, eight, NONE);
            refusesEdit("abc", MAX, MAX, eight, NONE);
            refusesEdit("abc", MIN, MIN, eight, NONE);
            refusesEdit("abc", MIN, MAX, eight, NONE);
            refusesEdit("a".repeat(200), 201, 0, eight, NONE);
        }
        editIs("abc", 3, 0, "z", "abcz");
        editIs("abc", 0, 0, "z", "zabc");
    }

    private static void cutIsOutside() {
        DUE.says("cut is not 0 .. length - at");
        for (long eight : new long[] {0, 'z'}) {
            refusesEdit("abc", 0, -1, eight, NONE);
            refusesEdit("abc", 0, 4, eight, NONE);
            refusesEdit("abc", 1, 3, eight, NONE);
            refusesEdit("abc", 3, 1, eight, NONE);
            refusesEdit("abc", 3, -1, eight, NONE);
            refusesEdit("", 0, 1, eight, NONE);
            refusesEdit("abc", 2, MAX, eight, NONE);
            refusesEdit("abc", 2, MIN, eight, NONE);
            refusesEdit("a".repeat(200), 1, 200, eight, NONE);
        }
        editIs("abc", 1, 2, "z", "az");
        editIs("abc", 1, 0, "z", "azbc");
    }

    private static void aByteIsNoCharacter() {
        DUE.says("or a byte is neither 0 nor a character");
        for (int k = 0; k < 8; k++) {
            for (long b : new long[] {1, 9, 11, 31, 127, 128, 255}) {
                long rest = 0x6161616161616161L & ~(255L << 8 * k);
                refusesEdit("abc", 1, 1, rest | b << 8 * k, NONE);
                refusesEdit("abc", 1, 1, b << 8 * k, NONE);
            }
            for (String c : new String[] {"\n", " ", "~"}) {
                editIs("abc", 1, 1, c, "a" + c + "c");
            }
        }
        refusesEdit("abc", 0, 0, -1L, NONE);
        refusesEdit("abc", 0, 0, Long.MIN_VALUE, NONE);
        refusesEdit("abc", 0, 0, Long.MAX_VALUE, NONE);
    }

    private static void fullComesLast() {
        DUE.says("then FULL when it would have more than 200");
        String full = "a".repeat(200);
        String near = "a".repeat(193);
        refusesEdit(full, 0, 0, 'z', FULL);
        refusesEdit(full, 200, 0, 'z', FULL);
        refusesEdit(full, 100, 1, Due.eight("zz"), FULL);
        refusesEdit(full, 193, 7, Due.eight("zzzzzzzz"), FULL);
        refusesEdit(near, 193, 0, Due.eight("zzzzzzzz"), FULL);
        editIs(near, 193, 0, "zzzzzzz", near + "zzzzzzz");
        editIs(near, 0, 1, "zzzzzzzz", "zzzzzzzz" + near.substring(1));
        editIs(full, 100, 1, "z", full.substring(0, 100) + "z" + full.substring(101));
        refusesEdit(full, 201, 0, 'z', NONE);
        refusesEdit(full, -1, 0, 'z', NONE);
        refusesEdit(full, 0, -1, 'z', NONE);
        refusesEdit(full, 200, 1, 'z', NONE);
        refusesEdit(full, 0, 0, 127, NONE);
        refusesEdit(full, 0, 0, 0x7a7a7a7a7a7a7a01L, NONE);
    }

    // ---- promises 3 and 4

    private static void length() {
        DUE.says("The length of the text.");
        for (int n : new int[] {0, 1, 7, 8, 9, 199, 200}) {
            DUE.is("length()", Due.server("\n".repeat(n)).length(), n);
        }
        BindingServer renamed = Due.server("a=a");
        renamed.rename(0, Due.eight("bcd"));
        DUE.is("length() of a renamed text", renamed.length(), 7);
    }

    private static void character() {
        DUE.says("The character at a place; NONE when there is none.");
        BindingServer x = Due.server("a~\n b");
        int[] row = {'a', '~', 10, 32, 'b'};
        for (int p = 0; p < row.length; p++) {
            DUE.is("character(" + p + ")", x.character(p), row[p]);
        }
        for (int p : new int[] {5, 6, -1, -5, 199, 200, 256, MIN, MAX}) {
            DUE.is("character(" + p + ")", x.character(p), NONE);
        }
        x.edit(2, 3, 0);
        DUE.is("the last after a cut", x.character(1), '~');
        DUE.is("behind it", x.character(2), NONE);
        BindingServer full = Due.server("a".repeat(199) + "b");
        DUE.is("character(199)", full.character(199), 'b');
        DUE.is("character(200)", full.character(200), NONE);
        DUE.is("character(-200)", full.character(-200), NONE);
    }
}
