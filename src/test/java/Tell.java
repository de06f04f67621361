/** What tests tell an object ahead. */
final class Tell {
    private Tell() { }

    /** A new object with PLAYERS by twos HITS, WAY. */
    static ThreeSnowballs players(int... told) {
        ThreeSnowballs x = new ThreeSnowballs();
        for (int i = 0; i < told.length; i += 2) {
            x.player(told[i], told[i + 1]);
        }
        return x;
    }

    /** A SHELF holds a ROW of bytes. */
    static void row(ThreeSnowballs x, int shelf, int... bytes) {
        x.row(shelf, 0, bytes.length);
        for (int i = 0; i < bytes.length; i++) {
            x.put(shelf, i, bytes[i]);
        }
    }

    /** A text is fed to THE TAPE: what law() answers. */
    static int law(ThreeSnowballs x, String text) {
        for (char c : text.toCharArray()) {
            x.feed(c);
        }
        return x.law();
    }
}
