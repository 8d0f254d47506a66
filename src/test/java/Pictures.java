/** What the yard shows, as text: six rows of numbers, with a point for each free cell. */
final class Pictures {
    private static final int SIDE = 6;

    private Pictures() {
    }

    static String of(RampJam jam) {
        StringBuilder picture = new StringBuilder();
        for (int row = 0; row < SIDE; row++) {
            for (int column = 0; column < SIDE; column++) {
                int vehicle = jam.at(row, column);
                picture.append(vehicle < 0 ? "." : "" + vehicle);
            }
            picture.append(row < SIDE - 1 ? "/" : "");
        }
        return picture.toString();
    }

    /** A new yard whose vehicles are parked as the picture shows them, by rising numbers. */
    static RampJam parked(String picture) {
        RampJam jam = new RampJam();
        parkAll(picture, jam::park);
        return jam;
    }

    /** The same in a SlowJam that finds so many positions. */
    static SlowJam slowlyParked(String picture, int mostPositions) {
        SlowJam jam = new SlowJam(mostPositions);
        parkAll(picture, jam::park);
        return jam;
    }

    private interface Parking {
        int park(int cells, boolean isAcross, int row, int column);
    }

    private static void parkAll(String picture, Parking yard) {
        String cells = picture.replace("/", "");
        for (char number = '0'; cells.indexOf(number) >= 0; number++) {
            int first = cells.indexOf(number);
            int last = cells.lastIndexOf(number);
            boolean isAcross = first / SIDE == last / SIDE;
            int size = 1 + (last - first) / (isAcross ? 1 : SIDE);
            yard.park(size, isAcross, first / SIDE, first % SIDE);
        }
    }

    /** All that can be asked without an argument or by vehicle, so that a change anywhere shows. */
    static String whole(RampJam jam) {
        StringBuilder all = new StringBuilder(of(jam));
        all.append(" vehicles ").append(jam.vehicles());
        for (int vehicle = 0; vehicle < jam.vehicles(); vehicle++) {
            all.append(", ").append(jam.freeWay(vehicle, false)).append('<').append(vehicle)
                    .append('>').append(jam.freeWay(vehicle, true));
        }
        all.append(" moves ").append(jam.moves()).append(" driven ").append(jam.driven());
        all.append(" positions ").append(jam.positions()).append(" hint ").append(jam.hint());
        return all.toString();
    }
}
