/** How tests tell an object texts. */
final class Telling {

    private Telling() {
    }

    /** THE TEXT is then just these signs. */
    static void text(BesideAnother x, String signs) {
        x.end(0);
        for (int i = 0; i < signs.length(); i += 4) {
            int v = 0;
            for (int k = i; k < i + 4; k++) {
                v = v << 8 | (k < signs.length() ? signs.charAt(k) : 0);
            }
            x.sign(v);
        }
        x.end(signs.length());
    }

    static int book(BesideAnother x, int i, String signs) {
        text(x, signs);
        return x.book(i);
    }

    static int rule(BesideAnother x, String signs) {
        text(x, signs);
        return x.rule();
    }
}
