import java.util.ArrayList;
import java.util.HashMap;
import java.util.List;
import java.util.Map;

/**
 * The document once more, written as plainly as can be, to compare RampJam with: the yard is a
 * grid that is painted anew for each look, and a position is a list of places. The most positions
 * can be set, so that a test can ask what lies beyond the 800.
 */
final class SlowJam {
    private record Vehicle(int cells, boolean isAcross, int row, int column) {
        Vehicle driven(int by) {
            return isAcross ? new Vehicle(cells, true, row, column + by) : new Vehicle(cells, false, row + by, column);
        }

        int place() {
            return isAcross ? column : row;
        }
    }

    private record Step(int vehicle, int by) {
    }

    private record Found(List<Vehicle> standing, int origin, Step step) {
    }

    private final int mostPositions;
    private List<Vehicle> parked = new ArrayList<>();
    private List<Vehicle> standing = new ArrayList<>();
    private int rampRow = -1;
    private int rampColumn = -1;
    private int moves;
    private int driven;

    SlowJam() {
        this(800);
    }

    SlowJam(int mostPositions) {
        this.mostPositions = mostPositions;
    }

    int park(int cells, boolean isAcross, int row, int column) {
        boolean isOutOfRange = cells < 2 || cells > 4 || row < 0 || row > 5 || column < 0 || column > 5;
        if (isOutOfRange) {
            throw new IllegalArgumentException();
        }
        Vehicle vehicle = new Vehicle(cells, isAcross, row, column);
        if (!isWithin(vehicle)) {
            throw new IllegalArgumentException();
        }
        if (parked.isEmpty() && !(cells == 2 && isAcross && row == 2)) {
            throw new IllegalArgumentException();
        }
        if (parked.size() == 9 || moves != 0 || !fits(vehicle, standing, -1)) {
            throw new IllegalStateException();
        }
        parked.add(vehicle);
        standing = new ArrayList<>(parked);
        return parked.size() - 1;
    }

    void ramp(int row, int column) {
        if (row < 0 || row > 5 || column < 0 || column > 5) {
            throw new IllegalArgumentException();
        }
        int vehicle = paint(standing)[row][column] - 1;
        if (moves != 0 || (vehicle >= 0 && standing.get(vehicle).cells() > 2)) {
            throw new IllegalStateException();
        }
        rampRow = row;
        rampColumn = column;
    }

    void drive(int vehicle, int cells) {
        needVehicle(vehicle);
        if (cells == 0 || cells < -4 || cells > 4) {
            throw new IllegalArgumentException();
        }
        List<Vehicle> next = driven(standing, vehicle, cells);
        if (next == null) {
            throw new IllegalStateException();
        }
        standing = next;
        moves++;
        driven += cells < 0 ? -cells : cells;
    }

    int driveOn(int vehicle, boolean isForward) {
        int way = freeWay(vehicle, isForward);
        if (way > 0) {
            drive(vehicle, isForward ? way : -way);
        }
        return way;
    }

    void restart() {
        standing = new ArrayList<>(parked);
        moves = 0;
        driven = 0;
    }

    int vehicles() {
        return parked.size();
    }

    int rowOf(int vehicle) {
        needVehicle(vehicle);
        return standing.get(vehicle).row();
    }

    int columnOf(int vehicle) {
        needVehicle(vehicle);
        return standing.get(vehicle).column();
    }

    int at(int row, int column) {
        if (row < 0 || row > 5 || column < 0 || column > 5) {
            throw new IllegalArgumentException();
        }
        return paint(standing)[row][column] - 1;
    }

    int freeWay(int vehicle, boolean isForward) {
        needVehicle(vehicle);
        int way = 0;
        while (driven(standing, vehicle, isForward ? way + 1 : -way - 1) != null) {
            way++;
        }
        return way;
    }

    int inTheWay() {
        if (standing.isEmpty()) {
            return 0;
        }
        int[][] grid = paint(standing);
        boolean[] isInTheWay = new boolean[10];
        for (int column = standing.get(0).column() + 2; column < 6; column++) {
            isInTheWay[grid[2][column]] = true;
        }
        int count = 0;
        for (int number = 1; number < 10; number++) {
            count += isInTheWay[number] ? 1 : 0;
        }
        return count;
    }

    boolean isSolved() {
        return isSolved(standing);
    }

    int moves() {
        return moves;
    }

    int driven() {
        return driven;
    }

    int positions() {
        return look().size();
    }

    int fewestMoves() {
        List<Step> way = way();
        return way == null ? -1 : way.size();
    }

    int hint() {
        List<Step> way = way();
        return way == null || way.isEmpty() ? -1 : 10 * way.get(0).vehicle() + way.get(0).by() + 4;
    }

    int solve() {
        List<Step> way = way();
        if (way == null) {
            return -1;
        }
        for (Step step : way) {
            drive(step.vehicle(), step.by());
        }
        return way.size();
    }

    boolean canReach(int vehicle, int place) {
        needVehicle(vehicle);
        if (place < 0 || place > 5) {
            throw new IllegalArgumentException();
        }
        for (Found found : look()) {
            if (found.standing().get(vehicle).place() == place) {
                return true;
            }
        }
        return false;
    }

    /** At which index the first solved position is found, or -1. */
    int firstSolvedIndex() {
        List<Found> all = look();
        for (int i = 0; i < all.size(); i++) {
            if (isSolved(all.get(i).standing())) {
                return i;
            }
        }
        return -1;
    }

    private List<Step> way() {
        List<Found> all = look();
        int index = firstSolvedIndex();
        if (index < 0) {
            return null;
        }
        List<Step> way = new ArrayList<>();
        for (Found found = all.get(index); found.step() != null; found = all.get(found.origin())) {
            way.add(0, found.step());
        }
        return way;
    }

    private List<Found> look() {
        List<Found> all = new ArrayList<>();
        Map<List<Vehicle>, Boolean> known = new HashMap<>();
        all.add(new Found(standing, 0, null));
        known.put(standing, true);
        for (int origin = 0; origin < all.size(); origin++) {
            for (int vehicle = 0; vehicle < standing.size(); vehicle++) {
                for (int direction = -1; direction <= 1; direction += 2) {
                    for (int cells = 1; cells <= 4; cells++) {
                        List<Vehicle> next = driven(all.get(origin).standing(), vehicle, direction * cells);
                        if (next != null && !known.containsKey(next)) {
                            all.add(new Found(next, origin, new Step(vehicle, direction * cells)));
                            known.put(next, true);
                        }
                        if (all.size() == mostPositions) {
                            return all;
                        }
                    }
                }
            }
        }
        return all;
    }

    /** Where all stand behind that drive, or null if it cannot go so far. */
    private List<Vehicle> driven(List<Vehicle> from, int vehicle, int cells) {
        int direction = cells < 0 ? -1 : 1;
        for (int way = direction; way != cells + direction; way += direction) {
            Vehicle next = from.get(vehicle).driven(way);
            if (!isWithin(next) || !fits(next, from, vehicle)) {
                return null;
            }
        }
        List<Vehicle> all = new ArrayList<>(from);
        all.set(vehicle, from.get(vehicle).driven(cells));
        return all;
    }

    private static boolean isWithin(Vehicle vehicle) {
        int place = vehicle.place();
        return place >= 0 && place + vehicle.cells() <= 6;
    }

    private boolean fits(Vehicle vehicle, List<Vehicle> others, int itself) {
        int[][] grid = paint(others);
        for (int i = 0; i < vehicle.cells(); i++) {
            int row = vehicle.isAcross() ? vehicle.row() : vehicle.row() + i;
            int column = vehicle.isAcross() ? vehicle.column() + i : vehicle.column();
            boolean isRamp = row == rampRow && column == rampColumn;
            if (isRamp && vehicle.cells() > 2) {
                return false;
            }
            if (grid[row][column] != 0 && grid[row][column] != itself + 1) {
                return false;
            }
        }
        return true;
    }

    /** Numbers plus 1; 0 for a free cell. */
    private static int[][] paint(List<Vehicle> all) {
        int[][] grid = new int[6][6];
        for (int number = 0; number < all.size(); number++) {
            Vehicle vehicle = all.get(number);
            for (int i = 0; i < vehicle.cells(); i++) {
                int row = vehicle.isAcross() ? vehicle.row() : vehicle.row() + i;
                int column = vehicle.isAcross() ? vehicle.column() + i : vehicle.column();
                grid[row][column] = number + 1;
            }
        }
        return grid;
    }

    private static boolean isSolved(List<Vehicle> all) {
        return !all.isEmpty() && all.get(0).column() == 4;
    }

    private void needVehicle(int vehicle) {
        if (vehicle < 0 || vehicle >= parked.size()) {
            throw new IndexOutOfBoundsException();
        }
    }
}
