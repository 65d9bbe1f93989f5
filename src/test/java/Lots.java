/** The lots as the document tells them. */
final class Lots {
    private int lots;

    Lots(int seed) {
        lots = seed;
    }

    int of(int k) {
        lots = (lots * 171 + 11213) % 53125;
        return lots / 64 % k;
    }

    int now() {
        return lots;
    }
}
