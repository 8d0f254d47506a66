/** What the yard shows, as text: six rows of numbers, with a point for each free cell. */
final class Pictures {
    private Pictures() {
    }

    static String of(RampJam jam) {
        StringBuilder picture = new StringBuilder();
        for (int row = 0; row < 6; row++) {
            for (int column = 0; column < 6; column++) {
                int vehicle = jam.at(row, column);
                picture.append(vehicle < 0 ? "." : "" + vehicle);
            }
            picture.append(row < 5 ? "/" : "");
        }
        return picture.toString();
    }
}
