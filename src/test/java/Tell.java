/** Tells texts to an object: its bytes, filled up with blanks, come on the tape twenty a call. */
final class Tell {
    private Tell() {
    }

    static void feed(PullCards x, String text) {
        StringBuilder s = new StringBuilder(text);
        while (s.length() % 20 != 0) {
            s.append(' ');
        }
        for (int i = 0; i < s.length(); i += 20) {
            int[] five = new int[5];
            for (int j = 0; j < 20; j++) {
                five[j / 4] = five[j / 4] << 8 | s.charAt(i + j);
            }
            x.feed(five[0], five[1], five[2], five[3], five[4]);
        }
    }

    static int text(PullCards x, String text) {
        feed(x, text);
        return x.text(text.length());
    }

    static PullCards of(String text) {
        PullCards x = new PullCards();
        if (text(x, text) == PullCards.NONE) {
            throw new IllegalArgumentException(text + " has fault " + x.fault() + " at " + x.where());
        }
        return x;
    }
}
