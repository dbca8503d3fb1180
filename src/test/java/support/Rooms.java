/** Puts texts and rows on shelves. */
final class Rooms {
    private Rooms() {
    }

    static CoatsOnTheBed of(String text) {
        CoatsOnTheBed x = new CoatsOnTheBed();
        bytes(x, 7, text);
        int answer = x.room(7);
        if (answer < 1) {
            throw new IllegalStateException(text + " answered " + answer);
        }
        x.keep(7, 0, 0, 0);
        return x;
    }

    static void bytes(CoatsOnTheBed x, int d, String text) {
        x.row(d, 0, text.length());
        for (int i = 0; i < text.length(); i++) {
            x.put(d, i, text.charAt(i));
        }
    }

    static int told(CoatsOnTheBed x, String text) {
        bytes(x, 7, text);
        return x.room(7);
    }

    static int ruled(CoatsOnTheBed x, String letters) {
        bytes(x, 7, letters);
        return x.rule(7);
    }

    static void row(CoatsOnTheBed x, int d, int sort, int... elements) {
        x.row(d, sort, elements.length);
        for (int i = 0; i < elements.length; i++) {
            x.put(d, i, elements[i]);
        }
    }

    /** 1 IllegalArgumentException, 2 IllegalStateException, 0 nothing is thrown. */
    static int thrown(CoatsOnTheBed x, int d, int i) {
        try {
            x.element(d, i);
        } catch (IllegalArgumentException e) {
            return 1;
        } catch (IllegalStateException e) {
            return 2;
        }
        return 0;
    }

    /** What is left of a great number in a row's first element, which then is as it was. */
    private static long sortOf(CoatsOnTheBed x, int d) {
        if (thrown(x, d, 0) != 0) {
            return 0;
        }
        int before = (int) x.element(d, 0);
        x.put(d, 0, 70000);
        long left = x.element(d, 0);
        x.put(d, 0, before);
        return left;
    }

    /** All that the calls can tell of a room, and of its shelves. */
    static String all(CoatsOnTheBed x) {
        StringBuilder s = new StringBuilder();
        for (int what = 0; what < 8; what++) {
            s.append(x.count(what)).append(' ');
        }
        for (int g = 0; g < x.count(0); g++) {
            for (int what = 0; what <= 8; what++) {
                s.append(x.guest(g, what)).append(',');
            }
        }
        for (int what = 0; what < 6; what++) {
            s.append(x.sums(what)).append(' ');
        }
        for (int d = 0; d < 8; d++) {
            s.append(x.cost(d)).append(':').append(x.toss(d)).append(':');
            s.append(x.put(d, -1, 0)).append(':').append(sortOf(x, d)).append(':');
            for (int i = 0; i < 101; i++) {
                try {
                    s.append(x.element(d, i)).append(',');
                } catch (IllegalStateException e) {
                    break;
                }
            }
        }
        return s.toString();
    }
}
