/** All that can be asked of a counter without changing it, as one text. */
final class Picture {
    private Picture() {
    }

    static String of(EscrowCounter x) {
        StringBuilder all = new StringBuilder();
        int n = x.sites();
        all.append("sites ").append(n).append(" time ").append(x.time()).append(" value ").append(x.value());
        all.append(" dormant ").append(x.dormant(0)).append(' ').append(x.dormant(1));
        for (int s = 0; s < n; s++) {
            all.append(" | site ").append(s).append(" known ").append(x.known(s));
            for (int kind = 0; kind < 2; kind++) {
                all.append(" own ").append(x.own(s, kind)).append(" available ").append(x.available(s, kind));
            }
            for (int t = 0; t < n; t++) {
                all.append(" (").append(x.version(s, t)).append(' ').append(x.copyTime(s, t));
                all.append(' ').append(x.demand(s, t, 0)).append(' ').append(x.demand(s, t, 1)).append(')');
            }
        }
        for (int loan = 0; loan < x.loans(); loan++) {
            all.append(" | loan");
            for (int what = 0; what < 8; what++) {
                all.append(' ').append(x.loan(loan, what));
            }
        }
        for (int message = 0; message < x.messages(); message++) {
            all.append(" | message");
            for (int what = 0; what < 3; what++) {
                all.append(' ').append(x.message(message, what));
            }
        }
        return all.toString();
    }
}
