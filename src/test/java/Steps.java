/** Steps that many tests take. */
final class Steps {
    private Steps() {
    }

    static void type(EscrowCounter x, String text) {
        for (int i = 0; i < text.length(); i++) {
            x.type(text.charAt(i));
        }
    }

    /** Types a text in place of the one that stands there, and runs it. */
    static int run(EscrowCounter x, String text) {
        x.clearText();
        type(x, text);
        return x.runScript();
    }

    /** Sends a message and delivers it at once; answers how many copies were replaced. */
    static int tell(EscrowCounter x, int from, int to) {
        return x.deliver(x.send(from, to));
    }

    static int lengthOfText(EscrowCounter x) {
        int length = x.clearText();
        type(x, " ".repeat(length));
        return length;
    }

    static int statesOf(EscrowCounter x) {
        int states = 0;
        while (states < 100) {
            try {
                x.undo();
            } catch (IllegalStateException e) {
                return states;
            }
            states++;
        }
        return states;
    }
}
