/**
 * What the tests share: putting texts into servers, and holding answers against those due. An object
 * is asked at most 512 times, so most answers are those of an object of their own.
 */
final class Due {
    static final int NONE = -1;
    static final int FULL = -2;
    static final int FIXED = -3;
    static final int CONFLICT = -4;
    /** Arguments that are no place and no number of anything in a short text. */
    static final int[] FAR = {-1, -2, Integer.MIN_VALUE, Integer.MAX_VALUE, 200, 201, 4096};

    private static final String[] KINDS = {
        "NAME", "NUMBER", "WORD", "SIGN", "NEWLINE", "INDENT", "DEDENT", "END", "BAD"};

    private int wrong = 0;
    private int held = 0;
    private int sentences = 0;
    private int heldBefore = 0;
    private String sentence = "";

    // ---- single answers

    void is(String what, long got, long want) {
        held++;
        if (got != want) {
            tell(what + " answered " + got + ", due is " + want);
        }
    }

    void isTrue(String what, boolean got) {
        is(what, got ? 1 : 0, 1);
    }

    void same(String what, String got, String want) {
        held++;
        if (!got.equals(want)) {
            tell(what + " answered " + shown(got) + ", due is " + shown(want));
        }
    }

    private void tell(String fault) {
        wrong++;
        System.out.println(fault + (sentence.isEmpty() ? "" : "  -- the document: " + sentence));
    }

    /** The words of the document that the answers from here on are to show. */
    void says(String words) {
        closeSentence();
        sentence = words;
        sentences++;
        heldBefore = held;
    }

    private void closeSentence() {
        if (sentences > 0 && held == heldBefore) {
            tell("nothing was asked");
        }
    }

    /** Ends the test with the exit code that tells whether all was as due. */
    void end(String test) {
        closeSentence();
        System.out.println(test + ": " + (sentences > 0 ? sentences + " sentences, " : "")
            + held + " answers, " + wrong + " not as due");
        if (wrong != 0 || held == 0) {
            System.exit(1);
        }
    }

    // ---- texts

    static String shown(String text) {
        return "[" + text.replace("\n", "\\n") + "]";
    }

    /** The bytes of a long, from the highest to the lowest. */
    static long eight(String characters) {
        long eight = 0;
        for (int i = 0; i < characters.length(); i++) {
            eight = eight << 8 | characters.charAt(i);
        }
        return eight;
    }

    static BindingServer server(String text) {
        BindingServer server = new BindingServer();
        for (int at = 0; at < text.length(); at += 8) {
            server.edit(at, 0, eight(text.substring(at, Math.min(at + 8, text.length()))));
        }
        return server;
    }

    static String textOf(BindingServer server) {
        StringBuilder text = new StringBuilder();
        int length = server.length();
        for (int p = 0; p < length; p++) {
            text.append((char) server.character(p));
        }
        return text.toString();
    }

    /** The answers of all calls that only look, at so many places that an object bears it. */
    static String answersOf(BindingServer x) {
        StringBuilder row = new StringBuilder();
        row.append(x.length()).append(' ').append(x.tokens()).append(' ').append(x.check()).append(' ')
            .append(x.place()).append(' ').append(x.scopes()).append(' ').append(x.names());
        int length = x.length();
        int step = 1 + length / 24;
        for (int p = -1; p <= length; p += step) {
            row.append("; ").append(x.character(p)).append(' ').append(x.token(p))
                .append(' ').append(x.extent(p, 0)).append(' ').append(x.extent(p, 1))
                .append(' ').append(x.scope(p / 4)).append(' ').append(x.name(p / 2))
                .append(' ').append(x.resolve(p)).append(' ').append(x.definition(p))
                .append(' ').append(x.reference(p, 0)).append(' ').append(x.reference(p, 1));
        }
        return row.toString();
    }

    /** Every answer is that of the text as it is, so it is that of a new object with the text. */
    void answersAsNew(String what, BindingServer x, String text) {
        same(what + ": answers", answersOf(x), answersOf(server(text)));
    }

    /** A text in which ^ stands before the character at a place that is spoken of. */
    static int markedPlace(String marked) {
        return marked.indexOf('^');
    }

    static String withoutMark(String marked) {
        return marked.replace("^", "");
    }

    /** What resolve answers. */
    static int what(int kind, int of, int belongs) {
        return kind + 8 * of + 512 * belongs;
    }

    // ---- the answers of a text that is put into a new object

    void rowIs(String text, String want) {
        BindingServer x = server(text);
        StringBuilder row = new StringBuilder();
        int count = x.tokens();
        for (int k = 0; k < count; k++) {
            int t = x.token(k);
            row.append(k == 0 ? "" : " ").append(KINDS[t & 15]).append(t >> 4 & 255)
                .append('-').append(t >> 12);
        }
        same("tokens of " + shown(text), row.toString(), want);
    }

    /** The kinds of the tokens alone, without NEWLINE and END. */
    void kindsAre(String text, String want) {
        BindingServer x = server(text);
        StringBuilder row = new StringBuilder();
        int count = x.tokens();
        for (int k = 0; k < count; k++) {
            int kind = x.token(k) & 15;
            if (kind != 4 && kind != 7) {
                row.append(row.length() == 0 ? "" : " ").append(KINDS[kind]);
            }
        }
        same("kinds of the tokens of " + shown(text), row.toString(), want);
    }

    void checkIs(String text, int code, int place) {
        BindingServer x = server(text);
        is("check() of " + shown(text), x.check(), code);
        is("place() of " + shown(text), x.place(), place);
    }

    void fine(String... texts) {
        for (String text : texts) {
            checkIs(text, 0, NONE);
        }
    }

    /** All extents that hold a place, the smallest first, as the characters in them. */
    void extentsAre(String text, int p, String... want) {
        BindingServer x = server(text);
        String at = " of " + shown(text) + " at " + p;
        for (int k = 0; k < want.length; k++) {
            int e = x.extent(p, k);
            String got = e == NONE ? "none" : text.substring(e & 255, e >> 8);
            same("extent " + k + at, got, want[k]);
        }
        is("extent " + want.length + at, x.extent(p, want.length), NONE);
    }

    void scopesAre(String text, int... want) {
        BindingServer x = server(text);
        is("scopes() of " + shown(text), x.scopes(), want.length);
        for (int k = 0; k < want.length; k++) {
            is("scope(" + k + ") of " + shown(text), x.scope(k), want[k]);
        }
        is("scope behind the last of " + shown(text), x.scope(want.length), NONE);
    }

    void namesAre(String text, int... want) {
        BindingServer x = server(text);
        is("names() of " + shown(text), x.names(), want.length);
        for (int k = 0; k < want.length; k++) {
            is("name(" + k + ") of " + shown(text), x.name(k), want[k]);
        }
        is("name behind the last of " + shown(text), x.name(want.length), NONE);
    }

    void resolveIs(String text, int p, int want) {
        is("resolve(" + p + ") of " + shown(text), server(text).resolve(p), want);
    }

    void definitionIs(String text, int p, int want) {
        is("definition(" + p + ") of " + shown(text), server(text).definition(p), want);
    }

    void referencesAre(String text, int p, int... want) {
        BindingServer x = server(text);
        for (int k = 0; k < want.length; k++) {
            is("reference(" + p + ", " + k + ") of " + shown(text), x.reference(p, k), want[k]);
        }
        is("reference(" + p + ", " + want.length + ") of " + shown(text),
            x.reference(p, want.length), NONE);
    }

    void renameIs(String text, int p, String name, int want, String after) {
        BindingServer x = server(text);
        String call = "rename(" + p + ", " + name + ") of " + shown(text);
        is(call, x.rename(p, eight(name)), want);
        answersAsNew(call, x, after);
        same(call + " leaves", textOf(x), after);
    }

    void renameRefused(String text, int p, String name, int refusal) {
        renameIs(text, p, name, refusal, text);
    }
}
