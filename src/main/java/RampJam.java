import java.util.Arrays;

/**
 * A jam in a yard of 6 rows and 6 columns, with one way out at the right end of the row 2.
 *
 * A position (where all vehicles stand) is held as one int: three bits a vehicle, by rising
 * numbers, hold the place on its axis; without vehicles it is 0, which is not solved. A set of
 * cells is held as one long: a bit a cell.
 */
public final class RampJam {
    private static final int SIDE = 6;
    private static final int MOST_VEHICLES = 9;
    private static final int CAR_SIZE = 2;
    private static final int MOST_SIZE = 4;
    private static final int MOST_DRIVE = 4;
    private static final int WAY_OUT_ROW = 2;
    private static final int SOLVED_COLUMN = 4;
    private static final int PLACE_BITS = 3;
    private static final int PLACE_MASK = 7;
    private static final int BACK = -1;
    private static final int FORWARD = 1;
    private static final int MOST_POSITIONS = 800;
    private static final int NONE = -1;

    private final Yard yard;
    private final Search search;
    private int parkedPosition;
    private int position;
    private int moveCount;
    private int drivenCells;
    private boolean isSearched;

    public RampJam() {
        yard = new Yard();
        search = new Search(yard);
    }

    public int park(int cells, boolean isAcross, int row, int column)
            throws IllegalArgumentException, IllegalStateException {
        if (cells < CAR_SIZE || cells > MOST_SIZE || !isInYard(row, column)) {
            throw new IllegalArgumentException("cells, row or column is out of range");
        }
        int line = isAcross ? row : column;
        int place = isAcross ? column : row;
        if (place + cells > SIDE) {
            throw new IllegalArgumentException("it would not stand within the yard");
        }
        if (yard.count() == 0 && (cells != CAR_SIZE || !isAcross || row != WAY_OUT_ROW)) {
            throw new IllegalArgumentException("the first vehicle is a car along the row 2");
        }
        if (moveCount > 0 || yard.count() >= MOST_VEHICLES) {
            throw new IllegalStateException("no vehicle can be parked now");
        }
        long filled = cellsOf(cells, isAcross, row, column);
        if ((filled & (yard.filledIn(position) | yard.barredTo(cells))) != 0) {
            throw new IllegalStateException("it cannot stand on these cells");
        }
        int vehicle = yard.add(cells, isAcross, line);
        parkedPosition = moved(parkedPosition, vehicle, place);
        standAt(parkedPosition);
        return vehicle;
    }

    public void ramp(int row, int column) throws IllegalArgumentException, IllegalStateException {
        if (!isInYard(row, column)) {
            throw new IllegalArgumentException("row or column is out of range");
        }
        if (moveCount > 0) {
            throw new IllegalStateException("moves were made");
        }
        long cell = cellOf(row, column);
        if (yard.isLorry(yard.vehicleOn(position, cell))) {
            throw new IllegalStateException("a lorry fills that cell");
        }
        yard.putRamp(cell);
        isSearched = false;
    }

    public void drive(int vehicle, int cells)
            throws IndexOutOfBoundsException, IllegalArgumentException, IllegalStateException {
        if (!yard.has(vehicle)) {
            throw new IndexOutOfBoundsException("no such vehicle");
        }
        if (cells < -MOST_DRIVE || cells > MOST_DRIVE || cells == 0) {
            throw new IllegalArgumentException("cells is out of range");
        }
        if (Math.abs(cells) > wayNow(vehicle, cells > 0)) {
            throw new IllegalStateException("it cannot go so far");
        }
        makeMove(vehicle, cells);
    }

    public int driveOn(int vehicle, boolean isForward) throws IndexOutOfBoundsException {
        if (!yard.has(vehicle)) {
            throw new IndexOutOfBoundsException("no such vehicle");
        }
        int way = wayNow(vehicle, isForward);
        if (way > 0) {
            makeMove(vehicle, isForward ? way : -way);
        }
        return way;
    }

    public void restart() {
        standAt(parkedPosition);
        moveCount = 0;
        drivenCells = 0;
    }

    public int vehicles() {
        return yard.count();
    }

    public int rowOf(int vehicle) throws IndexOutOfBoundsException {
        if (!yard.has(vehicle)) {
            throw new IndexOutOfBoundsException("no such vehicle");
        }
        return yard.standsAcross(vehicle) ? yard.lineOf(vehicle) : placeIn(position, vehicle);
    }

    public int columnOf(int vehicle) throws IndexOutOfBoundsException {
        if (!yard.has(vehicle)) {
            throw new IndexOutOfBoundsException("no such vehicle");
        }
        return yard.standsAcross(vehicle) ? placeIn(position, vehicle) : yard.lineOf(vehicle);
    }

    public int at(int row, int column) throws IllegalArgumentException {
        if (!isInYard(row, column)) {
            throw new IllegalArgumentException("row or column is out of range");
        }
        return yard.vehicleOn(position, cellOf(row, column));
    }

    public int freeWay(int vehicle, boolean isForward) throws IndexOutOfBoundsException {
        if (!yard.has(vehicle)) {
            throw new IndexOutOfBoundsException("no such vehicle");
        }
        return wayNow(vehicle, isForward);
    }

    public int inTheWay() {
        long wayOut = 0;
        for (int column = placeIn(position, 0) + CAR_SIZE; column < SIDE; column++) {
            wayOut |= cellOf(WAY_OUT_ROW, column);
        }
        int blocking = 0;
        for (int vehicle = 0; vehicle < yard.count(); vehicle++) {
            if ((yard.cellsIn(position, vehicle) & wayOut) != 0) {
                blocking++;
            }
        }
        return blocking;
    }

    public boolean isSolved() {
        return placeIn(position, 0) == SOLVED_COLUMN;
    }

    public int moves() {
        return moveCount;
    }

    public int driven() {
        return drivenCells;
    }

    public int positions() {
        searchFromNow();
        return search.count();
    }

    public int fewestMoves() {
        searchFromNow();
        return search.movesToSolved();
    }

    public int hint() {
        searchFromNow();
        return search.firstMoveToSolved();
    }

    public int solve() {
        searchFromNow();
        int steps = search.movesToSolved();
        if (steps > 0) {
            moveCount += steps;
            drivenCells += search.cellsToSolved();
            standAt(search.solvedPosition());
        }
        return steps;
    }

    public boolean canReach(int vehicle, int place)
            throws IndexOutOfBoundsException, IllegalArgumentException {
        if (!yard.has(vehicle)) {
            throw new IndexOutOfBoundsException("no such vehicle");
        }
        if (place < 0 || place >= SIDE) {
            throw new IllegalArgumentException("place is out of range");
        }
        searchFromNow();
        return search.findsAt(vehicle, place);
    }

    private int wayNow(int vehicle, boolean isForward) {
        return yard.wayIn(position, yard.filledIn(position), vehicle, isForward ? FORWARD : BACK);
    }

    private void makeMove(int vehicle, int cells) {
        standAt(moved(position, vehicle, cells));
        moveCount++;
        drivenCells += Math.abs(cells);
    }

    private void standAt(int newPosition) {
        position = newPosition;
        isSearched = false;
    }

    private void searchFromNow() {
        if (!isSearched) {
            search.lookFrom(position);
            isSearched = true;
        }
    }

    private static boolean isInYard(int row, int column) {
        return row >= 0 && row < SIDE && column >= 0 && column < SIDE;
    }

    private static long cellOf(int row, int column) {
        return 1L << (SIDE * row + column);
    }

    private static long cellsOf(int size, boolean isAcross, int row, int column) {
        long cells = 0;
        for (int i = 0; i < size && i < MOST_SIZE; i++) {
            cells |= isAcross ? cellOf(row, column + i) : cellOf(row + i, column);
        }
        return cells;
    }

    private static int placeIn(int position, int vehicle) {
        return (position >> (PLACE_BITS * vehicle)) & PLACE_MASK;
    }

    private static int moved(int position, int vehicle, int cells) {
        return position + cells * (1 << (PLACE_BITS * vehicle));
    }

    /** The vehicles by what driving does not change, and the ramp. */
    private static final class Yard {
        private final int[] sizes = new int[MOST_VEHICLES];
        private final boolean[] acrosses = new boolean[MOST_VEHICLES];
        private final int[] lines = new int[MOST_VEHICLES];
        /** The cells that each would fill at the place 0. */
        private final long[] shapes = new long[MOST_VEHICLES];
        private int vehicleCount;
        private long rampCell;

        int count() {
            return vehicleCount;
        }

        boolean has(int vehicle) {
            return vehicle >= 0 && vehicle < vehicleCount && vehicle < MOST_VEHICLES;
        }

        /** Answers the number of the new vehicle, or NONE if the yard holds no more. */
        int add(int size, boolean isAcross, int line) {
            int vehicle = vehicleCount;
            if (vehicle < 0 || vehicle >= MOST_VEHICLES) {
                return NONE;
            }
            sizes[vehicle] = size;
            acrosses[vehicle] = isAcross;
            lines[vehicle] = line;
            shapes[vehicle] = isAcross
                    ? cellsOf(size, true, line, 0)
                    : cellsOf(size, false, 0, line);
            vehicleCount = vehicle + 1;
            return vehicle;
        }

        void putRamp(long cell) {
            rampCell = cell;
        }

        boolean isLorry(int vehicle) {
            return has(vehicle) && sizes[vehicle] > CAR_SIZE;
        }

        boolean standsAcross(int vehicle) {
            return has(vehicle) && acrosses[vehicle];
        }

        int lineOf(int vehicle) {
            return has(vehicle) ? lines[vehicle] : 0;
        }

        long barredTo(int size) {
            return size > CAR_SIZE ? rampCell : 0;
        }

        long cellsIn(int position, int vehicle) {
            if (!has(vehicle)) {
                return 0;
            }
            int stride = acrosses[vehicle] ? 1 : SIDE;
            return shapes[vehicle] << (stride * placeIn(position, vehicle));
        }

        long filledIn(int position) {
            long filled = 0;
            for (int vehicle = 0; vehicle < vehicleCount; vehicle++) {
                filled |= cellsIn(position, vehicle);
            }
            return filled;
        }

        int vehicleOn(int position, long cell) {
            for (int vehicle = 0; vehicle < vehicleCount; vehicle++) {
                if ((cellsIn(position, vehicle) & cell) != 0) {
                    return vehicle;
                }
            }
            return NONE;
        }

        /** How many cells it can go; filled are the cells that are filled in the position. */
        int wayIn(int position, long filled, int vehicle, int direction) {
            if (!has(vehicle)) {
                return 0;
            }
            int place = placeIn(position, vehicle);
            int toBorder = direction == FORWARD ? SIDE - sizes[vehicle] - place : place;
            int stride = acrosses[vehicle] ? 1 : SIDE;
            long cells = cellsIn(position, vehicle);
            long barred = (filled & ~cells) | barredTo(sizes[vehicle]);
            for (int way = 0; way < toBorder; way++) {
                cells = direction == FORWARD ? cells << stride : cells >>> stride;
                if ((cells & barred) != 0) {
                    return way;
                }
            }
            return toBorder;
        }
    }

    /** The positions that are found from one on, in the order in which they are found. */
    private static final class Search {
        /** A power of two, well above the positions, so that looking for one stays short. */
        private static final int SLOTS = 2048;
        private static final int SLOT_SHIFT = 21;
        private static final int SCATTER = 0x9E3779B1;

        private final Yard yard;
        private final int[] found = new int[MOST_POSITIONS];
        /** By which position each was found, as its index; it is always less than its own. */
        private final int[] origins = new int[MOST_POSITIONS];
        /** By which move each was found, written as a hint is. */
        private final int[] moveCodes = new int[MOST_POSITIONS];
        /** Index and 1 of the position in each slot; 0 if the slot is free. */
        private final int[] slots = new int[SLOTS];
        private int foundCount;
        private int firstSolved;
        private int solvedMoves;
        private int solvedCells;
        private int solvedFirstMove;

        Search(Yard yard) {
            this.yard = yard;
        }

        int count() {
            return foundCount;
        }

        void lookFrom(int start) {
            Arrays.fill(slots, 0);
            foundCount = 0;
            firstSolved = NONE;
            addIfNew(start, 0, 0);
            for (int origin = 0; origin < foundCount && foundCount < MOST_POSITIONS; origin++) {
                addReachedFrom(origin);
            }
            traceWay();
        }

        /** 0 if the start is solved, NONE if no solved position is found. */
        int movesToSolved() {
            return solvedMoves;
        }

        int cellsToSolved() {
            return solvedCells;
        }

        /** NONE if the start is solved, or no solved position is found. */
        int firstMoveToSolved() {
            return solvedFirstMove;
        }

        int solvedPosition() {
            return isFound(firstSolved) ? found[firstSolved] : 0;
        }

        boolean findsAt(int vehicle, int place) {
            for (int i = 0; i < foundCount && i < MOST_POSITIONS; i++) {
                if (placeIn(found[i], vehicle) == place) {
                    return true;
                }
            }
            return false;
        }

        /** Goes back from the first solved position to the start. */
        private void traceWay() {
            solvedMoves = firstSolved == NONE ? NONE : 0;
            solvedCells = 0;
            solvedFirstMove = NONE;
            int index = firstSolved;
            for (int steps = 1; steps < MOST_POSITIONS && index > 0 && isFound(index); steps++) {
                solvedMoves = steps;
                solvedCells += Math.abs(cellsOfMove(moveCodes[index]));
                solvedFirstMove = moveCodes[index];
                index = origins[index];
            }
        }

        private boolean isFound(int index) {
            return index >= 0 && index < foundCount && index < MOST_POSITIONS;
        }

        private void addReachedFrom(int origin) {
            if (!isFound(origin)) {
                return;
            }
            int position = found[origin];
            long filled = yard.filledIn(position);
            for (int vehicle = 0; vehicle < yard.count(); vehicle++) {
                addDriven(origin, vehicle, BACK, yard.wayIn(position, filled, vehicle, BACK));
                addDriven(origin, vehicle, FORWARD, yard.wayIn(position, filled, vehicle, FORWARD));
            }
        }

        private void addDriven(int origin, int vehicle, int direction, int way) {
            if (!isFound(origin)) {
                return;
            }
            for (int steps = 1; steps <= way && steps <= MOST_DRIVE; steps++) {
                int cells = direction * steps;
                addIfNew(moved(found[origin], vehicle, cells), origin, codeOfMove(vehicle, cells));
            }
        }

        private void addIfNew(int position, int origin, int moveCode) {
            int index = foundCount;
            int slot = slotFor(position);
            if (index < 0 || index >= MOST_POSITIONS || slot < 0 || slot >= SLOTS || slots[slot] != 0) {
                return;
            }
            slots[slot] = index + 1;
            found[index] = position;
            origins[index] = origin;
            moveCodes[index] = moveCode;
            foundCount = index + 1;
            if (firstSolved == NONE && placeIn(position, 0) == SOLVED_COLUMN) {
                firstSolved = index;
            }
        }

        /** The slot that holds the position, or the free one that can take it. */
        private int slotFor(int position) {
            int first = (position * SCATTER) >>> SLOT_SHIFT;
            for (int probe = 0; probe < SLOTS; probe++) {
                int slot = (first + probe) & (SLOTS - 1);
                int index = slots[slot] - 1;
                if (index < 0 || index >= MOST_POSITIONS || found[index] == position) {
                    return slot;
                }
            }
            return NONE;
        }

        private static int codeOfMove(int vehicle, int cells) {
            return 10 * vehicle + cells + MOST_DRIVE;
        }

        private static int cellsOfMove(int code) {
            return code % 10 - MOST_DRIVE;
        }
    }
}
