/** What belongs to every promise: calls that only look, refused calls, and the text as it is. */
public final class RefusalTest {
    private static final int NONE = Due.NONE;
    private static final int FULL = Due.FULL;
    private static final int MIN = Integer.MIN_VALUE;
    private static final int MAX = Integer.MAX_VALUE;
    private static final String FULL_TEXT = "a=b\n" + "c+".repeat(97) + "d\n";
    /** Fine ones, ones with an error, ones with a fault, none, and all that there is room for. */
    private static final String[] TEXTS = {"", "a=b", "def f(a):\n lambda b:a", "[(a:=b) for b in c]\n",
        "a=1\nreturn", "a=1\nglobal a", "a b", "if a:\n (b", "((((((((((((", "class A:\n a=1\n", FULL_TEXT};

    private static final Due DUE = new Due();

    public static void main(String[] args) {
        lookingChangesNothing();
        lookingOutsideChangesNothing();
        refusedEdits();
        refusedEditsOfAFullText();
        refusedRenames();
        afterARefusal();
        howeverItCameAbout();
        emptiedAndFilled();
        objectsForThemselves();
        usedForManyCalls();
        DUE.end("RefusalTest");
    }

    // ---- calls that only look

    private static void lookingChangesNothing() {
        DUE.says("All calls but edit and rename only look.");
        for (String text : TEXTS) {
            BindingServer x = Due.server(text);
            String first = Due.answersOf(x);
            DUE.same("asked again, " + Due.shown(text), Due.answersOf(x), first);
        }
        BindingServer full = Due.server(FULL_TEXT);
        Due.answersOf(full);
        DUE.same("text", Due.textOf(full), FULL_TEXT);
        BindingServer x = Due.server("def f(a):\n lambda b:a");
        for (int i = 0; i < 3; i++) {
            DUE.is("definition(20)", x.definition(20), 6);
            DUE.is("reference(20, 1)", x.reference(20, 1), 20);
            DUE.is("extent(20, 1)", x.extent(20, 1), 11 + 256 * 21);
            DUE.is("scope(2)", x.scope(2), 3 + 8);
            DUE.is("resolve(6)", x.resolve(6), Due.what(2, 1, 1));
            DUE.is("token(3)", x.token(3), 16 * 6 + 4096 * 7);
            DUE.is("length()", x.length(), 21);
        }
    }

    private static void lookingOutsideChangesNothing() {
        DUE.says("There is no such thing, or an argument is not as said.");
        for (String text : TEXTS) {
            BindingServer x = Due.server(text);
            for (int far : new int[] {-1, 201, 512, MIN, MAX}) {
                DUE.is("character(" + far + ")", x.character(far), NONE);
                DUE.is("token(" + far + ")", x.token(far), NONE);
                DUE.is("extent(" + far + ", 0)", x.extent(far, 0), NONE);
                DUE.is("extent(0, " + far + ")", x.extent(0, far), NONE);
                DUE.is("scope(" + far + ")", x.scope(far), NONE);
                DUE.is("name(" + far + ")", x.name(far), NONE);
                DUE.is("resolve(" + far + ")", x.resolve(far), NONE);
                DUE.is("definition(" + far + ")", x.definition(far), NONE);
                DUE.is("reference(" + far + ", 0)", x.reference(far, 0), NONE);
                DUE.is("reference(0, " + far + ")", x.reference(0, far), NONE);
                DUE.is("rename(" + far + ", b)", x.rename(far, 'b'), NONE);
            }
            DUE.answersAsNew("after them, " + Due.shown(text), x, text);
        }
    }

    // ---- refused calls

    private static void refuses(BindingServer x, int at, int cut, long eight, int refusal) {
        DUE.is("edit(" + at + ", " + cut + ", " + eight + ")", x.edit(at, cut, eight), refusal);
    }

    private static void refusedEdits() {
        DUE.says("A call that is refused changes nothing.");
        for (boolean asked : new boolean[] {false, true}) {
            for (String text : TEXTS) {
                BindingServer x = Due.server(text);
                int n = text.length();
                if (asked) {
                    x.check();
                }
                refuses(x, -1, 0, ')', NONE);
                refuses(x, n + 1, 0, ')', NONE);
                refuses(x, MIN, 1, ')', NONE);
                refuses(x, MAX, 1, ')', NONE);
                refuses(x, 0, n + 1, ')', NONE);
                refuses(x, 0, -1, ')', NONE);
                refuses(x, n, 1, ')', NONE);
                refuses(x, 0, MAX, ')', NONE);
                refuses(x, 0, MIN, ')', NONE);
                refuses(x, 0, n, 1, NONE);
                refuses(x, 0, n, 0x2828282828282880L, NONE);
                refuses(x, 0, n, 0x7f28282828282828L, NONE);
                DUE.answersAsNew("after them, " + Due.shown(text), x, text);
                DUE.same("text", Due.textOf(x), text);
            }
        }
    }

    private static void refusedEditsOfAFullText() {
        DUE.says("FULL = -2");
        DUE.is("FULL", BindingServer.FULL, FULL);
        BindingServer x = Due.server(FULL_TEXT);
        refuses(x, 0, 0, ')', FULL);
        refuses(x, 200, 0, ')', FULL);
        refuses(x, 0, 7, Due.eight("))))))))"), FULL);
        refuses(x, 193, 7, Due.eight("))))))))"), FULL);
        refuses(x, 100, 1, Due.eight("))"), FULL);
        DUE.answersAsNew("after them", x, FULL_TEXT);
        DUE.same("text", Due.textOf(x), FULL_TEXT);
    }

    private static void refusedRename(String marked, String name, int refusal) {
        DUE.renameRefused(Due.withoutMark(marked), Due.markedPlace(marked), name, refusal);
    }

    private static void refusedRenames() {
        DUE.says("Refused: NONE");
        refusedRename("a^=b", "c", NONE);
        refusedRename("^a=b", "if", NONE);
        refusedRename("^a=b", "", NONE);
        refusedRename("^a=b\nreturn", "c", NONE);
        refusedRename("^a=b)", "c", NONE);
        refusedRename("a=^b", "c", Due.FIXED);
        refusedRename("^" + FULL_TEXT, "xyz", FULL);
        refusedRename("^" + FULL_TEXT, "b", Due.CONFLICT);
        refusedRename("def f(^a):\n lambda b:a", "b", Due.CONFLICT);
        refusedRename("def f(^aaa):\n lambda b:aaa", "b", Due.CONFLICT);
        refusedRename("def f(^a):\n lambda bbb:a", "bbb", Due.CONFLICT);
        refusedRename("[(^a:=1) for bbbb in c]", "bbbb", Due.CONFLICT);
        DUE.is("FIXED", BindingServer.FIXED, -3);
        DUE.is("CONFLICT", BindingServer.CONFLICT, -4);
        DUE.is("NONE", BindingServer.NONE, -1);
    }

    /** The first call behind a refusal is each of the others in turn. */
    private static void afterARefusal() {
        DUE.says("A call that is refused changes nothing.");
        for (int call = 0; call < 15; call++) {
            BindingServer x = Due.server("def f(a):\n lambda bb:a");
            DUE.is("rename(6, bb)", x.rename(6, Due.eight("bb")), Due.CONFLICT);
            DUE.is("call " + call + " behind a CONFLICT", ask(x, call), ASKED[call]);
            DUE.is("rename(6, if)", x.rename(6, Due.eight("if")), NONE);
            DUE.is("call " + call + " behind a NONE", ask(x, call), ASKED[call]);
            DUE.is("edit(30, 0, b)", x.edit(30, 0, 'b'), NONE);
            DUE.is("call " + call + " behind a refused edit", ask(x, call), ASKED[call]);
        }
    }

    private static final int[] ASKED = {22, 'a', 15, 4096 * 22 + 16 * 21, 0, NONE, 11 + 256 * 22, 3,
        3 + 8, 4, 18, Due.what(3, 1, 2), 6, 21, 2};

    private static int ask(BindingServer x, int call) {
        switch (call) {
            case 0:
                return x.length();
            case 1:
                return x.character(6);
            case 2:
                return x.tokens();
            case 3:
                return x.token(11);
            case 4:
                return x.check();
            case 5:
                return x.place();
            case 6:
                return x.extent(11, 0);
            case 7:
                return x.scopes();
            case 8:
                return x.scope(2);
            case 9:
                return x.names();
            case 10:
                return x.name(2);
            case 11:
                return x.resolve(21);
            case 12:
                return x.definition(21);
            case 13:
                return x.reference(6, 1);
            default:
                return x.rename(21, 'a');
        }
    }

    // ---- the text as it is

    private static void howeverItCameAbout() {
        DUE.says("Every answer is that of the text as it is, however it came about.");
        for (String text : TEXTS) {
            BindingServer front = new BindingServer();
            for (int p = 0; p < text.length(); p++) {
                front.edit(p, 0, text.charAt(p));
            }
            DUE.answersAsNew("from the front, " + Due.shown(text), front, text);
            BindingServer back = new BindingServer();
            for (int p = text.length() - 1; p >= 0; p--) {
                back.edit(0, 0, text.charAt(p));
            }
            DUE.answersAsNew("from the back, " + Due.shown(text), back, text);
            BindingServer asked = new BindingServer();
            for (int at = 0; at < text.length(); at += 8) {
                asked.edit(at, 0, Due.eight(text.substring(at, Math.min(at + 8, text.length()))));
                asked.check();
                asked.resolve(0);
            }
            DUE.answersAsNew("asked between, " + Due.shown(text), asked, text);
        }
        BindingServer cut = Due.server("abc+d");
        cut.check();
        cut.edit(1, 4, 0);
        DUE.answersAsNew("asked before a cut", cut, "a");
        cut.edit(0, 1, '#');
        DUE.answersAsNew("asked before another", cut, "#");
        BindingServer renamed = Due.server("xyz=1\nlambda a:xyz+a");
        renamed.rename(0, 'b');
        DUE.answersAsNew("by a renaming", renamed, "b=1\nlambda a:b+a");
        renamed.edit(4, 12, Due.eight("b"));
        DUE.answersAsNew("by a renaming and an edit", renamed, "b=1\nb");
    }

    private static void emptiedAndFilled() {
        DUE.says("An empty text (it is fine: one token, END; one scope; no occurrences).");
        for (String text : TEXTS) {
            BindingServer x = Due.server(text);
            x.check();
            DUE.is("all is cut", x.edit(0, text.length(), 0), 0);
            DUE.answersAsNew("emptied, " + Due.shown(text), x, "");
            for (int at = 0; at < 16; at += 8) {
                x.edit(at, 0, Due.eight("lambda:a".substring(0, 8 - at / 8)));
            }
            DUE.answersAsNew("filled again", x, "lambda:alambda:");
        }
    }

    private static void objectsForThemselves() {
        DUE.says("Every answer is that of the text as it is");
        BindingServer x = Due.server("a=1");
        BindingServer y = Due.server("def f(b):b");
        DUE.is("names() of one", x.names(), 1);
        DUE.is("names() of the other", y.names(), 3);
        DUE.is("rename of one", x.rename(0, Due.eight("cc")), 1);
        DUE.is("edit of the other", y.edit(0, 10, ')'), 1);
        DUE.answersAsNew("one", x, "cc=1");
        DUE.answersAsNew("the other", y, ")");
    }

    private static void usedForManyCalls() {
        DUE.says("An object is used for at most 512 calls after it has been made");
        BindingServer x = new BindingServer();
        for (int i = 0; i < 255; i++) {
            DUE.is("edit " + i, x.edit(0, x.length() == 0 ? 0 : 1, 'a' + i % 26), 1);
        }
        DUE.is("call 511", x.character(0), 'a' + 254 % 26);
        DUE.is("call 512", x.resolve(0), 6);
    }
}
