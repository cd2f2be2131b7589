/** The borders that the document names for rename: promise 17. */
public final class RenameEdgeTest {
    private static final int NONE = Due.NONE;
    private static final int FULL = Due.FULL;
    private static final int FIXED = Due.FIXED;
    private static final int CONFLICT = Due.CONFLICT;
    private static final String[] WORDS = {"class", "def", "del", "else", "for", "global", "if",
        "import", "in", "lambda", "nonlocal", "pass", "return", "while"};

    private static final Due DUE = new Due();

    public static void main(String[] args) {
        allAreReplaced();
        highestToLowest();
        howMany();
        theNameThatItHas();
        noneAsForResolve();
        noName();
        wordsAreNoNames();
        emptyIsNoName();
        namesThatAreRight();
        missingIsFixed();
        theVariableIsMissing();
        fullAt201();
        tooLong();
        notFineThen();
        standsForSomethingElse();
        mergedVariables();
        noConflict();
        orderOfRefusals();
        renamedAgain();
        DUE.end("RenameEdgeTest");
    }

    private static void renamed(String marked, String name, int count, String after) {
        DUE.renameIs(Due.withoutMark(marked), Due.markedPlace(marked), name, count, after);
    }

    private static void refused(int refusal, String name, String... marked) {
        for (String text : marked) {
            DUE.renameRefused(Due.withoutMark(text), Due.markedPlace(text), name, refusal);
        }
    }

    // ---- what it does

    private static void allAreReplaced() {
        DUE.says("Renames the variable of the occurrence at place p: all occurrences of it are replaced");
        renamed("^a=1", "b", 1, "b=1");
        renamed("a=1\nb=^a", "cc", 2, "cc=1\nb=cc");
        renamed("^abc=abc", "x", 2, "x=x");
        renamed("ab^c=abc", "x", 2, "x=x");
        renamed("^a=1\nlambda a:a\na", "b", 2, "b=1\nlambda a:a\nb");
        renamed("a=1\nlambda ^a:a\na", "b", 2, "a=1\nlambda b:b\na");
        renamed("def f(^a):\n def g():\n  nonlocal a\n  a=a", "xy", 4,
            "def f(xy):\n def g():\n  nonlocal xy\n  xy=xy");
        renamed("def f():\n global a\n a=1\n^a", "xy", 3, "def f():\n global xy\n xy=1\nxy");
        renamed("def f():\n global ^a\n a=1\na", "xy", 3, "def f():\n global xy\n xy=1\nxy");
        renamed("[^a for a in a]", "b", 2, "[b for b in a]");
        renamed("[a for a in ^a]\na=1", "b", 2, "[a for a in b]\nb=1");
        renamed("class ^A:A=1", "B", 1, "class B:A=1");
        renamed("class A:^A=1", "B", 1, "class A:B=1");
        renamed("def ^f(a):return f(a)", "g", 2, "def g(a):return g(a)");
        renamed("(^a:=1)+[(a:=2) for b in c]", "dd", 2, "(dd:=1)+[(dd:=2) for b in c]");
        renamed("global ^a", "bb", 1, "global bb");
        renamed("^a=1 # a a", "bb", 1, "bb=1 # a a");
        renamed("^a=aa+a_+a1", "b", 1, "b=aa+a_+a1");
        renamed("for ^long_name in b:long_name", "a", 2, "for a in b:a");
    }

    private static void highestToLowest() {
        DUE.says("by the name whose characters are the bytes of name, from the highest to the lowest,"
            + " zeros left out");
        long[] names = {0x62L, 0x6263L, 0x6200000000000000L, 0x6200630000640065L, 0x0062006300000000L,
            0x6263646566676869L, 0x0000000000006200L};
        String[] spelled = {"b", "bc", "b", "bcde", "bc", "bcdefghi", "b"};
        for (int i = 0; i < names.length; i++) {
            BindingServer x = Due.server("a=a");
            DUE.is("rename(0, " + names[i] + ")", x.rename(0, names[i]), 2);
            DUE.same("then the text", Due.textOf(x), spelled[i] + "=" + spelled[i]);
        }
    }

    private static void howMany() {
        DUE.says("Answers how many were replaced.");
        DUE.is("one", Due.server("a=1").rename(0, 'b'), 1);
        DUE.is("two", Due.server("a=a").rename(0, 'b'), 2);
        DUE.is("of two variables", Due.server("a=b\nb=a\na").rename(0, 'c'), 3);
        DUE.is("a hundred", Due.server("a=a" + "+a".repeat(98)).rename(0, 'b'), 100);
        DUE.is("those that declare, too", Due.server("global a,a\nglobal a").rename(7, 'b'), 3);
    }

    private static void theNameThatItHas() {
        DUE.says("(The name that it has may be told: nothing changes.)");
        renamed("a=1\nb=^a", "a", 2, "a=1\nb=a");
        renamed("def f(^a,b):a+b", "a", 2, "def f(a,b):a+b");
        renamed("^a=b\nb=a", "a", 2, "a=b\nb=a");
        renamed("[(^a:=b) for b in c]", "a", 1, "[(a:=b) for b in c]");
        String full = "a=1\n" + "#".repeat(196);
        DUE.renameIs(full, 0, "a", 1, full);
        renamed("abcdefg^h=1", "abcdefgh", 1, "abcdefgh=1");
        renamed("def f():\n global ^a", "a", 1, "def f():\n global a");
    }

    // ---- NONE

    private static void noneAsForResolve() {
        DUE.says("Refused: NONE as for resolve");
        for (int p : new int[] {1, 2, 3, 4, 200, -1, Integer.MIN_VALUE, Integer.MAX_VALUE}) {
            DUE.renameRefused("a=1", p, "b", NONE);
            DUE.renameRefused("a=1", p, "a", NONE);
        }
        refused(NONE, "b", "^", "^pass", "^1", "a^ =1", "# ^a", "^a=1\nreturn", "^a=1\n)", "^a=1\nglobal a",
            "(((((((((((^a", "^a b", "^global a");
    }

    private static void noName() {
        DUE.says("or when name is no NAME");
        for (String name : new String[] {"1", "1a", "0_", "a b", " a", "a ", "a\n", "a+b", "a-b", "a.b",
            "(a)", "a,b", "a:", ":=", "#", "a#", "?", "a@", "a[", "a`", "a{", "a/", "\u0001", "a\u0001",
            "\u007f", "a\u0080", "\u00ff", "a\u00c3"}) {
            refused(NONE, name, "^a=1", "a=^b", "def f(^a):a");
        }
        for (long name : new long[] {-1L, Long.MIN_VALUE, Long.MAX_VALUE, 0x3100000000000061L,
            0xff00000000000061L, 0x6161616161616120L, 0x2061616161616161L}) {
            BindingServer x = Due.server("a=1");
            DUE.is("rename(0, " + name + ")", x.rename(0, name), NONE);
            DUE.answersAsNew("after it", x, "a=1");
        }
        for (int c = 1; c < 256; c++) {
            boolean letter = c < 128 && (Character.isLetter(c) || c == '_');
            boolean later = letter || c >= '0' && c <= '9';
            DUE.is("rename to the character " + c, Due.server("q=1").rename(0, c), letter ? 1 : NONE);
            DUE.is("rename to q and " + c, Due.server("q=1").rename(0, 'q' << 8 | c), later ? 1 : NONE);
        }
    }

    private static void wordsAreNoNames() {
        DUE.says("(a WORD, or empty)");
        for (String word : WORDS) {
            refused(NONE, word, "^a=1", "a=^b");
            if (word.length() < 8) {
                renamed("^a=1", word + "_", 1, word + "_=1");
            }
            renamed("^a=1", word.substring(0, word.length() - 1), 1,
                word.substring(0, word.length() - 1) + "=1");
        }
        DUE.is("a WORD with a zero in it", Due.server("a=1").rename(0, 0x690066L), NONE);
        DUE.is("a WORD in front of zeros", Due.server("a=1").rename(0, 0x6966000000000000L), NONE);
        renamed("^a=1", "If", 1, "If=1");
        renamed("^a=1", "iff", 1, "iff=1");
        renamed("^a=1", "LAMBDA", 1, "LAMBDA=1");
    }

    private static void emptyIsNoName() {
        DUE.says("or empty");
        refused(NONE, "", "^a=1", "^a", "a=a+^a");
    }

    private static void namesThatAreRight() {
        DUE.says("name is no NAME (a WORD, or empty)");
        for (String name : new String[] {"b", "z", "A", "Z", "_", "__", "_0", "b9", "bcdefghi", "_1234567",
            "Z9_z0_a1"}) {
            renamed("^a=a", name, 2, name + "=" + name);
        }
    }

    // ---- FIXED and FULL

    private static void missingIsFixed() {
        DUE.says("then FIXED when it is MISSING");
        refused(FIXED, "b", "^a", "c=^a", "lambda:^a", "def f(b):^a", "[a for a in ^a]", "class A:^a",
            "def f():global a\n^a", "a+^a", "lambda a:1\n^a", "class A:\n a=1\n lambda:^a");
        refused(FIXED, "a", "^a", "a+^a");
        renamed("^a\na=1", "b", 2, "b\nb=1");
        renamed("lambda:^a\ndef f():\n global a\n a=1", "b", 3, "lambda:b\ndef f():\n global b\n b=1");
    }

    private static void theVariableIsMissing() {
        DUE.says("The variable is MISSING.");
        DUE.is("FIXED", BindingServer.FIXED, -3);
        DUE.is("MISSING", Due.server("a").rename(0, 'b'), BindingServer.FIXED);
        String[] others = {"lambda ^a:a", "lambda ^a:lambda:a", "lambda a:lambda:^a", "global ^a", "^a=1"};
        for (String text : others) {
            BindingServer x = Due.server(Due.withoutMark(text));
            DUE.isTrue("not MISSING: " + text, x.rename(Due.markedPlace(text), 'q') > 0);
        }
    }

    private static void tooLong() {
        DUE.says("The text would be too long.");
        DUE.is("FULL", BindingServer.FULL, -2);
        String full = "a=1\n" + "#".repeat(196);
        DUE.is("rename", Due.server(full).rename(0, Due.eight("bb")), BindingServer.FULL);
        DUE.is("edit", Due.server(full).edit(0, 0, 'b'), BindingServer.FULL);
    }

    private static void fullAt201() {
        DUE.says("then FULL when the text would have more than 200 characters");
        String full = "a=1\n" + "#".repeat(196);
        DUE.renameIs(full, 0, "b", 1, "b" + full.substring(1));
        DUE.renameRefused(full, 0, "bb", FULL);
        DUE.renameRefused(full, 0, "bcdefghi", FULL);
        String near = "a=1\n" + "#".repeat(189);
        DUE.renameIs(near, 0, "bcdefghi", 1, "bcdefghi" + near.substring(1));
        DUE.renameRefused(near + "#", 0, "bcdefghi", FULL);
        String many = "a=a" + "+a".repeat(19) + "#".repeat(12);
        DUE.renameIs(many, 0, "bcdefghi", 21, many.replace("a", "bcdefghi"));
        DUE.renameRefused(many + "#", 0, "bcdefghi", FULL);
        DUE.renameIs(many + "#", 0, "bcdefgh", 21, many.replace("a", "bcdefgh") + "#");
        String hundred = "a=a" + "+a".repeat(98);
        DUE.renameRefused(hundred, 0, "bb", FULL);
        String shorter = "abc=1\n" + "#".repeat(194);
        DUE.renameIs(shorter, 0, "b", 1, shorter.replace("abc", "b"));
        DUE.renameIs(shorter, 0, "bcd", 1, shorter.replace("abc", "bcd"));
        DUE.renameRefused(shorter, 0, "bcde", FULL);
    }

    // ---- CONFLICT

    private static void notFineThen() {
        DUE.says("then CONFLICT unless the new text is fine");
        refused(CONFLICT, "b", "def f(^a,b):1", "def f(b,^a):1", "lambda ^a,b:1", "def f(^a):global b",
            "def f():\n ^a=1\n global b", "def f():\n global b\n ^a=1\n global b",
            "def f(b):\n def g():\n  global ^a\n  nonlocal b", "[(^a:=1) for b in c]",
            "[[(^a:=1) for c in d] for b in e]", "def f(b):\n def g():\n  nonlocal b\n  global ^a",
            "def f(b):\n def g():\n  global ^a\n  def h():nonlocal b");
        refused(CONFLICT, "a", "[(a:=1) for ^b in c]", "[(a:=1)+b for ^b in c]");
    }

    private static void standsForSomethingElse() {
        DUE.says("each occurrence, by their order in the text, has in it the same answer of resolve as"
            + " before");
        refused(CONFLICT, "b", "^a=1\nb", "b\n^a=1", "^a=1\nlambda:b", "def f(^a):b", "def f(^a):lambda:b",
            "def f(^a):b\nb=1", "^a=1\ndef f(b):a", "^a=1\ndef f(b):lambda:a", "def f(^a):lambda b:a",
            "def f(^a):\n lambda b:lambda:a", "lambda b:lambda ^a:b", "lambda b:lambda ^a:lambda:b",
            "[f(^a,b) for a in c]", "def f():\n global ^a\n a=1\n lambda:b\n",
            "def f(^a):\n class B:\n  b=1\n  a", "def f(b):\n def g():\n  global ^a\n  lambda:b");
        refused(CONFLICT, "a", "def f(a):\n lambda ^b:a+b", "[[a+b for ^b in c] for a in d]");
        refused(CONFLICT, "bb", "^a=1\nbb");
    }

    private static void mergedVariables() {
        DUE.says("and any two are of the same variable just when they were");
        refused(CONFLICT, "b", "^a=1\nb=1", "b=1\n^a=1", "class A:\n ^a=1\n b=1", "global ^a\nglobal b",
            "global ^a,b", "def f():\n ^a=1\n b=1", "def f():\n global ^a\n a=1\ndef g():\n global b\n b=1",
            "import ^a\nimport b", "def ^a():1\ndef b():1", "def f():\n for ^a in c:\n  for b in d:1");
        refused(CONFLICT, "f", "def f():\n global ^a");
    }

    private static void noConflict() {
        DUE.says("Something would come to stand for something else.");
        renamed("^a=1\ndef f(b):b", "b", 1, "b=1\ndef f(b):b");
        renamed("def f(^a):a\ndef g(b):b", "b", 2, "def f(b):b\ndef g(b):b");
        renamed("lambda ^a:lambda b:b", "b", 1, "lambda b:lambda b:b");
        renamed("class A:\n ^a=1\n def f(b):b", "b", 1, "class A:\n b=1\n def f(b):b");
        renamed("class A:\n ^a=1\n lambda:b", "b", 1, "class A:\n b=1\n lambda:b");
        renamed("def ^f():f\nclass g:1", "h", 2, "def h():h\nclass g:1");
        renamed("[^a for a in b]", "b", 2, "[b for b in b]");
        renamed("lambda b:[^a for a in b]", "b", 2, "lambda b:[b for b in b]");
        renamed("def f(^f):f", "a", 2, "def f(a):a");
        renamed("def f(^a):a", "f", 2, "def f(f):f");
        renamed("def f(^a):\n def g():global b", "b", 1, "def f(b):\n def g():global b");
    }

    private static void orderOfRefusals() {
        DUE.says("Refused: NONE as for resolve, or when name is no NAME (a WORD, or empty); then FIXED"
            + " when it is MISSING; then FULL when the text would have more than 200 characters; then"
            + " CONFLICT");
        String tail = "#".repeat(194) + "\n";
        refused(NONE, "if", "^a", "^a=b");
        refused(NONE, "", "^a");
        refused(NONE, "return", "^aa=b" + tail);
        refused(NONE, "12345678", "^aa=b" + tail);
        refused(NONE, "bb", "aa^=b" + tail);
        refused(FIXED, "bbbbbbbb", "aa=^b" + tail);
        refused(FIXED, "aa", "aa=^b" + tail, "aa=^b");
        refused(FULL, "bcdefghi", "^aa=b" + tail);
        refused(CONFLICT, "b", "^aa=b" + tail);
        String both = "a=bb\n" + "#".repeat(195);
        DUE.renameRefused(both, 0, "bb", FULL);
        DUE.renameRefused(both.substring(0, 199), 0, "bb", CONFLICT);
        DUE.renameIs(both.substring(0, 199), 0, "cc", 1, "cc" + both.substring(1, 199));
    }

    private static void renamedAgain() {
        DUE.says("Answers how many were replaced.");
        BindingServer x = Due.server("def f(a):\n lambda b:a");
        DUE.is("refused", x.rename(6, 'b'), CONFLICT);
        DUE.is("then allowed", x.rename(6, 'c'), 2);
        DUE.answersAsNew("after it", x, "def f(c):\n lambda b:c");
        DUE.is("and again", x.rename(20, Due.eight("dd")), 2);
        DUE.answersAsNew("after it", x, "def f(dd):\n lambda b:dd");
        DUE.is("and back", x.rename(7, Due.eight("a")), 2);
        DUE.answersAsNew("after it", x, "def f(a):\n lambda b:a");
        DUE.is("the other", x.rename(18, Due.eight("a")), CONFLICT);
        DUE.is("the other", x.rename(18, Due.eight("xy")), 1);
        DUE.same("text", Due.textOf(x), "def f(a):\n lambda xy:a");
    }
}
