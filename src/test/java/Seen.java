/** All that can be seen of an object, as one text. Looking sets trouble() and where(), so these aren't in it. */
final class Seen {
    private final PullCards x;
    private final StringBuilder s = new StringBuilder();

    private Seen(PullCards x) {
        this.x = x;
    }

    static String of(PullCards x) {
        Seen seen = new Seen(x);
        seen.s.append("fault ").append(x.fault()).append(" bytes ").append(x.bytes()).append(" about");
        for (int what = 0; what < 8; what++) {
            seen.put(x.about(what));
        }
        seen.benches();
        seen.kinds();
        for (int i = 0; i < x.about(2); i++) {
            seen.s.append(" stream");
            for (int what = 0; what < 3; what++) {
                seen.put(x.stream(i, what));
            }
        }
        seen.s.append(" starved ").append(x.starved(0)).append(' ').append(x.starved(1));
        seen.s.append(" rate ").append(x.rate(0)).append(' ').append(x.rate(1));
        return seen.s.append(" busiest ").append(x.busiest()).toString();
    }

    private void put(int answer) {
        s.append(' ').append(answer);
    }

    private void benches() {
        for (int b = 0; b < x.about(1); b++) {
            s.append("\n  bench ").append((char) ('a' + x.letter(false, b, 0)));
            for (int what = 0; what < 5; what++) {
                put(x.counts(b, what));
            }
            for (int what = 0; what < 4; what++) {
                put(x.bench(b, what));
                put(x.does(b, what));
            }
            put(x.peak(b));
            for (int k = 0; k < x.about(0); k++) {
                s.append(" cards");
                put(x.timeOf(b, k));
                for (int what = 0; what < 4; what++) {
                    put(x.cardsOf(b, k, what));
                }
            }
        }
    }

    private void kinds() {
        for (int k = 0; k < x.about(0); k++) {
            s.append("\n  kind ").append((char) ('a' + x.letter(true, k, 0)));
            for (int what = 0; what < 4; what++) {
                put(x.orders(k, what));
            }
            put(x.firstOf(k));
        }
    }
}
