/** New objects of YesNoClones with functions on the shelf. */
final class Objects {
    private Objects() {
    }

    /** A new object with these codes on the shelf (at most six), two calls each. */
    static YesNoClones with(int... codes) {
        YesNoClones x = new YesNoClones();
        for (int code : codes) {
            x.seed(seedFor(code));
            x.drift(1);
        }
        x.seed(0);
        return x;
    }

    /** The seed from which the next draw of 256 is this. */
    static int seedFor(int draw) {
        long inverse = 1;
        for (int i = 0; i < 5; i++) inverse *= 2 - 1103515245L * inverse;
        return (int) (((draw * 65536L) - 12345) * inverse & 0x7fffffffL);
    }

    /** A new object on whose shelf and in whose text this formula has just been typed. */
    static YesNoClones type(YesNoClones x, String text) {
        for (int i = 0; i < text.length(); i++) x.feed(text.charAt(i));
        return x;
    }
}
