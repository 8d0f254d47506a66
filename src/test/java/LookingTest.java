/** Promises 8 (rowOf), 9 (columnOf), 10 (at), 12 (inTheWay) and 13 (isSolved). */
public final class LookingTest {
    private static final Check CHECK = new Check();

    public static void main(String[] args) {
        placesAreTold();
        placesFollowTheDrives();
        placesRefuse();
        cellsAreTold();
        cellsRefuse();
        inTheWayCountsVehicles();
        inTheWayFollowsTheCar();
        solvedOnlyAtTheWayOut();
        CHECK.end();
    }

    private static void placesAreTold() {
        RampJam jam = new RampJam();
        jam.park(2, true, 2, 3);
        jam.park(2, false, 4, 0);
        jam.park(3, true, 5, 3);
        jam.park(4, false, 1, 5);
        int[] rows = {2, 4, 5, 1};
        int[] columns = {3, 0, 3, 5};
        for (int vehicle = 0; vehicle < 4; vehicle++) {
            CHECK.due("row of " + vehicle, jam.rowOf(vehicle), rows[vehicle]);
            CHECK.due("column of " + vehicle, jam.columnOf(vehicle), columns[vehicle]);
        }
    }

    private static void placesFollowTheDrives() {
        RampJam jam = new RampJam();
        jam.park(2, true, 2, 3);
        jam.park(2, false, 4, 0);
        jam.drive(0, -2);
        CHECK.due("row across", jam.rowOf(0), 2);
        CHECK.due("column across", jam.columnOf(0), 1);
        jam.drive(1, -4);
        CHECK.due("row down", jam.rowOf(1), 0);
        CHECK.due("column down", jam.columnOf(1), 0);
        jam.restart();
        CHECK.due("column restarted", jam.columnOf(0), 3);
        CHECK.due("row restarted", jam.rowOf(1), 4);
    }

    private static void placesRefuse() {
        RampJam jam = new RampJam();
        CHECK.badIndex("rowOf without vehicles", () -> jam.rowOf(0));
        CHECK.badIndex("columnOf without vehicles", () -> jam.columnOf(0));
        jam.park(2, true, 2, 3);
        jam.park(2, false, 4, 0);
        for (int vehicle : new int[] {-1, 2, 9, Integer.MIN_VALUE, Integer.MAX_VALUE}) {
            CHECK.badIndex("rowOf " + vehicle, () -> jam.rowOf(vehicle));
            CHECK.badIndex("columnOf " + vehicle, () -> jam.columnOf(vehicle));
        }
    }

    private static void cellsAreTold() {
        RampJam jam = new RampJam();
        jam.ramp(0, 0);
        jam.park(2, true, 2, 0);
        jam.park(4, false, 2, 5);
        jam.park(3, true, 0, 3);
        CHECK.due("parked", Pictures.of(jam), "...222/....../00...1/.....1/.....1/.....1");
        jam.drive(0, 3);
        jam.drive(2, -2);
        CHECK.due("driven", Pictures.of(jam), ".222../....../...001/.....1/.....1/.....1");
    }

    private static void cellsRefuse() {
        RampJam jam = new RampJam();
        for (int place : new int[] {-1, 6, Integer.MIN_VALUE, Integer.MAX_VALUE}) {
            CHECK.badArgument("at row " + place, () -> jam.at(place, 0));
            CHECK.badArgument("at column " + place, () -> jam.at(0, place));
        }
        CHECK.due("at a corner", jam.at(5, 5), -1);
    }

    private static void inTheWayCountsVehicles() {
        RampJam jam = new RampJam();
        jam.park(2, true, 2, 0);
        CHECK.due("none", jam.inTheWay(), 0);
        jam.park(2, true, 0, 0);
        jam.park(2, false, 0, 2);
        CHECK.due("above the row", jam.inTheWay(), 0);
        jam.park(3, false, 3, 2);
        CHECK.due("below the row", jam.inTheWay(), 0);
        jam.park(2, false, 2, 5);
        CHECK.due("down by its first cell", jam.inTheWay(), 1);
        jam.park(3, false, 0, 4);
        CHECK.due("down by its last cell", jam.inTheWay(), 2);
        RampJam along = new RampJam();
        along.park(2, true, 2, 0);
        along.park(4, true, 2, 2);
        CHECK.due("a lorry along the row is one", along.inTheWay(), 1);
        RampJam behind = new RampJam();
        behind.park(2, true, 2, 3);
        behind.park(3, true, 2, 0);
        CHECK.due("behind the car", behind.inTheWay(), 0);
        behind.park(4, false, 1, 5);
        CHECK.due("behind and before the car", behind.inTheWay(), 1);
    }

    private static void inTheWayFollowsTheCar() {
        RampJam jam = new RampJam();
        jam.park(2, true, 2, 2);
        jam.park(2, false, 2, 0);
        jam.park(2, false, 0, 1);
        jam.park(2, false, 2, 4);
        CHECK.due("one before it", jam.inTheWay(), 1);
        jam.drive(3, 1);
        CHECK.due("that one has gone", jam.inTheWay(), 0);
        jam.drive(0, 2);
        CHECK.due("at the way out", jam.inTheWay(), 0);
        jam.drive(2, 1);
        CHECK.due("behind it", jam.inTheWay(), 0);
        jam.restart();
        CHECK.due("restarted", jam.inTheWay(), 1);
    }

    private static void solvedOnlyAtTheWayOut() {
        RampJam jam = new RampJam();
        CHECK.due("without vehicles", jam.isSolved(), false);
        jam.park(2, true, 2, 0);
        jam.park(2, true, 0, 4);
        jam.park(2, false, 4, 5);
        for (int column = 0; column <= 3; column++) {
            CHECK.due("in column " + column, jam.isSolved(), false);
            jam.drive(0, 1);
        }
        CHECK.due("in column 4", jam.isSolved(), true);
        jam.drive(0, -1);
        CHECK.due("driven away again", jam.isSolved(), false);
        jam.driveOn(0, true);
        CHECK.due("there again", jam.isSolved(), true);
        jam.restart();
        CHECK.due("restarted", jam.isSolved(), false);
    }
}
