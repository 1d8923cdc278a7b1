import java.util.function.Supplier;

/**
 * All that the calls of a counter can bring to light, as one text: beside what can be asked, also the states
 * of the history, what the messages under way contain, and the text. To look at these changes the counter, so
 * that each look is at a new one.
 */
final class DeepPicture {
    private static final int MANY = 100;

    private DeepPicture() {
    }

    static String of(Supplier<EscrowCounter> scene) {
        return Picture.of(scene.get()) + history(scene.get()) + messages(scene.get()) + text(scene.get());
    }

    private static String history(EscrowCounter x) {
        StringBuilder all = new StringBuilder();
        for (int i = 0; i < MANY; i++) {
            try {
                all.append("\n  undo ").append(x.undo()).append(": ").append(Picture.of(x));
            } catch (IllegalStateException e) {
                return all.append("\n  states ").append(i).toString();
            }
        }
        return all.append(" and no end").toString();
    }

    private static String messages(EscrowCounter x) {
        StringBuilder all = new StringBuilder();
        for (int i = 0; i < MANY && x.messages() > 0; i++) {
            all.append("\n  deliver ").append(x.deliver(0)).append(": ").append(Picture.of(x));
        }
        return all.toString();
    }

    private static String text(EscrowCounter x) {
        int answer = x.runScript();
        return "\n  runScript " + answer + ": " + Picture.of(x) + "\n  text left " + x.clearText();
    }
}
