/**
 * Runs of edits and renamings, right and wrong ones mixed, held against a text that is kept beside:
 * every answer must be that of the text as it is, however it came about.
 */
public final class EditTest {
    private static final String[] PIECES = {"a", "b=1\n", "def f():", "\n", "\n ", " ", "pass", "(", ")",
        "lambda:", "x", "global x", "a b c d", "[a for", " b in c]", "class A:", "+1", "#"};

    private final Due due = new Due();
    private long seed = 17L;

    public static void main(String[] args) {
        EditTest test = new EditTest();
        for (int run = 0; run < 700; run++) {
            test.run();
        }
        test.due.end("EditTest");
    }

    private int pick(int bound) {
        seed = seed * 6364136223846793005L + 1442695040888963407L;
        return (int) Math.floorMod(seed >>> 33, (long) bound);
    }

    private void run() {
        BindingServer x = new BindingServer();
        StringBuilder text = new StringBuilder();
        for (int step = 0; step < 50; step++) {
            edit(x, text);
            due.is("length()", x.length(), text.length());
            int p = pick(text.length() + 2) - 1;
            boolean outside = p < 0 || p >= text.length();
            due.is("character(" + p + ")", x.character(p), outside ? -1 : text.charAt(p));
            if (pick(4) == 0) {
                asNew(x, text.toString());
            }
        }
        due.same("text", Due.textOf(x), text.toString());
    }

    private void edit(BindingServer x, StringBuilder text) {
        String piece = PIECES[pick(PIECES.length)];
        int at = pick(text.length() + 1);
        int cut = pick(3) == 0 ? pick(text.length() - at + 1) : 0;
        long eight = Due.eight(piece);
        int wrong = pick(12);
        if (wrong == 0) {
            at = pick(2) == 0 ? -1 - pick(300) : text.length() + 1 + pick(300);
        } else if (wrong == 1) {
            cut = pick(2) == 0 ? -1 - pick(300) : text.length() - at + 1 + pick(300);
        } else if (wrong == 2) {
            eight = eight << 8 | 127 + pick(129);
        }
        int want = -1;
        if (wrong > 2) {
            want = text.length() - cut + piece.length() > 200 ? -2 : 0;
        }
        if (want == 0) {
            text.replace(at, at + cut, piece);
            want = text.length();
        }
        due.is("edit(" + at + ", " + cut + ", " + eight + ")", x.edit(at, cut, eight), want);
    }

    private void asNew(BindingServer x, String text) {
        BindingServer fresh = Due.server(text);
        String shown = " of " + Due.shown(text);
        due.is("check()" + shown, x.check(), fresh.check());
        due.is("place()" + shown, x.place(), fresh.place());
        due.is("tokens()" + shown, x.tokens(), fresh.tokens());
        due.is("scopes()" + shown, x.scopes(), fresh.scopes());
        due.is("names()" + shown, x.names(), fresh.names());
        int p = pick(text.length() + 1);
        due.is("extent(" + p + ", 0)" + shown, x.extent(p, 0), fresh.extent(p, 0));
        due.is("resolve(" + p + ")" + shown, x.resolve(p), fresh.resolve(p));
    }
}
