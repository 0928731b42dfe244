/** Feeds texts and rows of numbers, filled up with blanks to twenties of bytes. */
final class Tapes {
    private Tapes() {
    }

    static int[] bytesOf(String text) {
        int[] bytes = new int[text.length()];
        for (int i = 0; i < bytes.length; i++) {
            bytes[i] = text.charAt(i);
        }
        return bytes;
    }

    static int feedAll(CattleShow show, int... bytes) {
        int answer = show.count(2);
        for (int from = 0; from < bytes.length; from += 20) {
            answer = show.feed(word(bytes, from), word(bytes, from + 4), word(bytes, from + 8),
                    word(bytes, from + 12), word(bytes, from + 16));
        }
        return answer;
    }

    static int word(int[] bytes, int from) {
        int word = 0;
        for (int i = from; i < from + 4; i++) {
            word = word << 8 | (i < bytes.length ? bytes[i] & 255 : ' ');
        }
        return word;
    }

    static int text(CattleShow show, int c, String text) {
        feedAll(show, bytesOf(text));
        return show.text(c, text.length());
    }

    static int reasons(CattleShow show, int c, String text) {
        feedAll(show, bytesOf(text));
        return show.reasons(c, text.length());
    }

    static boolean order(CattleShow show, int j, int c, int... row) {
        feedAll(show, row);
        return show.order(j, c);
    }

    static int card(CattleShow show, int c, int... row) {
        feedAll(show, row);
        return show.card(c);
    }
}
