/** What the tests share: putting texts into servers, and holding answers against those due. */
final class Due {
    private int wrong = 0;
    private int held = 0;

    void is(String what, long got, long want) {
        held++;
        if (got != want) {
            wrong++;
            System.out.println(what + " answered " + got + ", due is " + want);
        }
    }

    void isTrue(String what, boolean got) {
        is(what, got ? 1 : 0, 1);
    }

    void same(String what, String got, String want) {
        held++;
        if (!got.equals(want)) {
            wrong++;
            System.out.println(what + " answered " + shown(got) + ", due is " + shown(want));
        }
    }

    static String shown(String text) {
        return "[" + text.replace("\n", "\\n") + "]";
    }

    /** Ends the test with the exit code that tells whether all was as due. */
    void end(String test) {
        System.out.println(test + ": " + held + " answers, " + wrong + " not as due");
        if (wrong != 0 || held == 0) {
            System.exit(1);
        }
    }

    /** The bytes of a long, from the highest to the lowest. */
    static long eight(String characters) {
        long eight = 0;
        for (int i = 0; i < characters.length(); i++) {
            eight = eight << 8 | characters.charAt(i);
        }
        return eight;
    }

    static BindingServer server(String text) {
        BindingServer server = new BindingServer();
        for (int at = 0; at < text.length(); at += 8) {
            server.edit(at, 0, eight(text.substring(at, Math.min(at + 8, text.length()))));
        }
        return server;
    }

    static String textOf(BindingServer server) {
        StringBuilder text = new StringBuilder();
        for (int p = 0; p < server.length(); p++) {
            text.append((char) server.character(p));
        }
        return text.toString();
    }
}
