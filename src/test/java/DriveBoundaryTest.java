/**
 * Sentences of the document that name a boundary case, each with a test of its own that quotes it:
 * "Terms" of driving, and promises 4 (drive), 5 (driveOn), 6 (restart) and 8 (rowOf) to 15 (driven).
 */
public final class DriveBoundaryTest {
    private static final Check CHECK = new Check();
    private static final int[] OUTSIDE = {-1, 6, -2, 7, Integer.MIN_VALUE, Integer.MAX_VALUE};
    private static final String ALONE = "....../....../00..../....../....../......";
    private static final String SOLVED = "....../....../....00/....../....../......";
    private static final String SIX = "1..222/1...5./.00.5./....53/....53/.44443";
    private static final String NINE = "112233/445566/00..../7788../....../......";

    public static void main(String[] args) {
        forwardIsToGreaterBackToLesser();
        cellsOnTheWayMustBeFree();
        cellsThatAreLeftAreFree();
        drivesEndAtTheBorders();
        rampStopsLorriesFromBothSides();
        carsDriveOverTheRamp();
        eachDriveIsOneMove();
        solvedAsLongAsInColumnsFourAndFive();
        driveRefusesVehicles();
        driveRefusesCellsOutOfRange();
        driveTakesFourAndMinusFour();
        driveRefusesOneCellTooFar();
        refusedDriveChangesNothing();
        driveOnRefusesVehicles();
        driveOnGoesAsFarAsItGoes();
        driveOnByNoneIsNoMove();
        restartPutsBackWhereParked();
        restartCountsFromZero();
        restartLeavesTheRamp();
        restartLetsParkAgain();
        restartLetsMoveTheRampAgain();
        restartOfAnEmptyYard();
        rowOfIsZeroToFive();
        rowOfRefusesVehicles();
        columnOfIsZeroToFive();
        columnOfRefusesVehicles();
        atTellsNumbersOrMinusOne();
        atRefusesRowOutOfRange();
        atRefusesColumnOutOfRange();
        freeWayIsZeroToFour();
        freeWayRefusesVehicles();
        inTheWayCountsGreaterColumnsOnly();
        inTheWayCountsTheRowTwoOnly();
        inTheWayCountsVehiclesNotCells();
        inTheWayWithoutVehicles();
        inTheWayAtTheWayOut();
        solvedWithoutVehicles();
        solvedByTheCarZeroOnly();
        movesAreCountedSinceTheBeginning();
        drivenCellsAreCountedTogether();
        CHECK.end();
    }

    private static void tell(String when, RampJam jam, int moves, int driven) {
        CHECK.due(when + ": moves", jam.moves(), moves);
        CHECK.due(when + ": driven", jam.driven(), driven);
    }

    /** The numbers just below and above those of the vehicles, and the least and greatest of all. */
    private static int[] numbersOfNone(RampJam jam) {
        return new int[] {-1, jam.vehicles(), jam.vehicles() + 1, -2, Integer.MIN_VALUE, Integer.MAX_VALUE};
    }

    /** Yards of 0, 1, 6 and 9 vehicles. */
    private static RampJam[] yards() {
        return new RampJam[] {new RampJam(), Pictures.parked(ALONE), Pictures.parked(SIX), Pictures.parked(NINE)};
    }

    /** "to greater columns or rows is forward, to lesser ones back", "back if below 0" */
    private static void forwardIsToGreaterBackToLesser() {
        RampJam jam = Pictures.parked("....../...1../.001../...1../....../......");
        jam.drive(0, -1);
        CHECK.due("across back", Pictures.of(jam), "....../...1../00.1../...1../....../......");
        jam.drive(0, 1);
        CHECK.due("across forward", Pictures.of(jam), "....../...1../.001../...1../....../......");
        jam.drive(1, -1);
        CHECK.due("down back", Pictures.of(jam), "...1../...1../.001../....../....../......");
        jam.drive(1, 2);
        CHECK.due("down forward", Pictures.of(jam), "....../....../.001../...1../...1../......");
        CHECK.due("down on back", jam.driveOn(1, false), 2);
        CHECK.due("down on back: row", jam.rowOf(1), 0);
        CHECK.due("across on back", jam.driveOn(0, false), 1);
        CHECK.due("across on back: column", jam.columnOf(0), 0);
        CHECK.due("down on forward", jam.driveOn(1, true), 3);
        CHECK.due("down on forward: row", jam.rowOf(1), 3);
    }

    /** "It needs all cells that it comes to fill on the way free" */
    private static void cellsOnTheWayMustBeFree() {
        jumpIsRefused("across by 4", "....../....../001.../..1.../....../......", 0, 4, 0);
        jumpIsRefused("across by 3", "....../....../001.../..1.../....../......", 0, 3, 0);
        jumpIsRefused("across by 4, a cell on", "....../....../00.1../...1../....../......", 0, 4, 1);
        jumpIsRefused("across by -4", "....../....../..1.00/..1.../....../......", 0, -4, 1);
        jumpIsRefused("across by -3", "....../....../...100/...1../....../......", 0, -3, 0);
        jumpIsRefused("down by 4", "1...../1...../00..../....../....../......", 1, 4, 0);
        jumpIsRefused("down by 3", "1...../1...../00..../....../....../......", 1, 3, 0);
        jumpIsRefused("down by -4", "....../....../00..../....../1...../1.....", 1, -4, 1);
    }

    private static void jumpIsRefused(String name, String picture, int vehicle, int cells, int way) {
        RampJam jam = Pictures.parked(picture);
        CHECK.badState(name, () -> jam.drive(vehicle, cells));
        CHECK.due(name + ": picture", Pictures.of(jam), picture);
        CHECK.due(name + ": freeWay", jam.freeWay(vehicle, cells > 0), way);
        CHECK.due(name + ": driveOn", jam.driveOn(vehicle, cells > 0), way);
    }

    /** "It needs all cells that it comes to fill on the way free": its own and left ones are. */
    private static void cellsThatAreLeftAreFree() {
        RampJam jam = Pictures.parked("....../....../0011../...222/....../......");
        jam.drive(1, 2);
        jam.drive(0, 2);
        jam.drive(2, -2);
        CHECK.due("behind one another", Pictures.of(jam), "....../....../..0011/.222../....../......");
        jam.drive(2, 1);
        CHECK.due("over its own cells", Pictures.of(jam), "....../....../..0011/..222./....../......");
    }

    /** "within the yard" */
    private static void drivesEndAtTheBorders() {
        for (int size = 2; size <= 4; size++) {
            for (int place = 0; place + size <= 6; place++) {
                RampJam across = Pictures.parked(ALONE);
                across.park(size, true, 5, place);
                endsAtBorders(size + " across", across, size, place);
                RampJam down = Pictures.parked(ALONE);
                down.park(size, false, place, 5);
                endsAtBorders(size + " down", down, size, place);
            }
        }
    }

    private static void endsAtBorders(String name, RampJam jam, int size, int place) {
        int forward = 6 - size - place;
        CHECK.due(name + " forward from " + place, jam.freeWay(1, true), forward);
        CHECK.due(name + " back from " + place, jam.freeWay(1, false), place);
        if (forward < 4) {
            CHECK.badState(name + " beyond from " + place, () -> jam.drive(1, forward + 1));
        }
        if (place < 4) {
            CHECK.badState(name + " before from " + place, () -> jam.drive(1, -place - 1));
        }
        tell(name + " from " + place, jam, 0, 0);
    }

    /** "and, for a lorry, without the ramp" */
    private static void rampStopsLorriesFromBothSides() {
        for (int size = 3; size <= 4; size++) {
            for (int place = 0; place + size <= 6; place++) {
                for (int ramp = 0; ramp < 6; ramp++) {
                    if (ramp < place || ramp >= place + size) {
                        RampJam across = Pictures.parked(ALONE);
                        across.ramp(5, ramp);
                        across.park(size, true, 5, place);
                        stopsAtRamp(size + " across", across, size, place, ramp);
                        RampJam down = Pictures.parked(ALONE);
                        down.park(size, false, place, 5);
                        down.ramp(ramp, 5);
                        stopsAtRamp(size + " down", down, size, place, ramp);
                    }
                }
            }
        }
    }

    private static void stopsAtRamp(String name, RampJam jam, int size, int place, int ramp) {
        int forward = ramp > place ? ramp - place - size : 6 - size - place;
        int back = ramp < place ? place - ramp - 1 : place;
        String call = name + " from " + place + ", ramp " + ramp;
        CHECK.due(call + ": forward", jam.freeWay(1, true), forward);
        CHECK.due(call + ": back", jam.freeWay(1, false), back);
        CHECK.badState(call + ": too far", () -> jam.drive(1, forward + 1));
        CHECK.badState(call + ": too far back", () -> jam.drive(1, -back - 1));
        CHECK.due(call + ": driveOn", jam.driveOn(1, true), forward);
        CHECK.due(call + ": driveOn back", jam.driveOn(1, false), forward + back);
    }

    /** "Cars drive over it and stand on it" */
    private static void carsDriveOverTheRamp() {
        for (int ramp = 0; ramp < 6; ramp++) {
            RampJam across = Pictures.parked(ALONE);
            across.ramp(2, ramp);
            CHECK.due("across, ramp " + ramp, across.freeWay(0, true), 4);
            for (int column = 1; column <= 4; column++) {
                across.drive(0, 1);
                CHECK.due("across, ramp " + ramp, across.at(2, ramp), ramp == column || ramp == column + 1 ? 0 : -1);
            }
            across.drive(0, -4);
            CHECK.due("across back, ramp " + ramp, across.columnOf(0), 0);
            RampJam down = Pictures.parked("1...../1...../..00../....../....../......");
            down.ramp(ramp, 0);
            CHECK.due("down, ramp " + ramp, down.driveOn(1, true), 4);
            CHECK.due("down back, ramp " + ramp, down.driveOn(1, false), 4);
        }
    }

    /** "Each drive is one move, however many cells it goes." */
    private static void eachDriveIsOneMove() {
        RampJam jam = Pictures.parked(ALONE);
        for (int cells = 1; cells <= 4; cells++) {
            jam.drive(0, cells);
            CHECK.due("forward by " + cells, jam.moves(), 2 * cells - 1);
            jam.drive(0, -cells);
            CHECK.due("back by " + cells, jam.moves(), 2 * cells);
        }
        jam.driveOn(0, true);
        CHECK.due("as far as it goes", jam.moves(), 9);
    }

    /** "The jam is solved as long as the car 0 fills the columns 4 and 5; it may drive away again." */
    private static void solvedAsLongAsInColumnsFourAndFive() {
        RampJam jam = Pictures.parked(ALONE);
        jam.drive(0, 3);
        CHECK.due("in the columns 3 and 4", jam.isSolved(), false);
        jam.drive(0, 1);
        CHECK.due("in the columns 4 and 5", jam.isSolved(), true);
        jam.drive(0, -1);
        CHECK.due("driven away by 1", jam.isSolved(), false);
        jam.drive(0, 1);
        CHECK.due("there again", jam.isSolved(), true);
        CHECK.due("driven away by 4", jam.driveOn(0, false), 4);
        CHECK.due("at the left border", jam.isSolved(), false);
        CHECK.due("parked there", Pictures.parked(SOLVED).isSolved(), true);
    }

    /** "if there is no such vehicle" */
    private static void driveRefusesVehicles() {
        for (RampJam jam : yards()) {
            for (int vehicle : numbersOfNone(jam)) {
                for (int cells : new int[] {1, -1, 0, 5, -5, Integer.MIN_VALUE}) {
                    CHECK.badIndex(jam.vehicles() + " vehicles: drive " + vehicle + " by " + cells,
                            () -> jam.drive(vehicle, cells));
                }
            }
        }
    }

    /** "if cells is out of range": "-4 to 4, not 0" */
    private static void driveRefusesCellsOutOfRange() {
        RampJam jam = Pictures.parked(SIX);
        for (int cells : new int[] {0, 5, -5, 6, -6, 8, -8, Integer.MIN_VALUE, Integer.MAX_VALUE}) {
            for (int vehicle = 0; vehicle < 6; vehicle++) {
                int number = vehicle;
                CHECK.badArgument("drive " + vehicle + " by " + cells, () -> jam.drive(number, cells));
            }
        }
        tell("refused", jam, 0, 0);
    }

    /** "-4 to 4, not 0" */
    private static void driveTakesFourAndMinusFour() {
        RampJam jam = Pictures.parked("1...../1...../..00../....../....../......");
        jam.drive(1, 4);
        CHECK.due("down by 4", jam.rowOf(1), 4);
        jam.drive(1, -4);
        CHECK.due("down by -4", jam.rowOf(1), 0);
        jam.drive(0, -2);
        jam.drive(0, 4);
        CHECK.due("across by 4", jam.columnOf(0), 4);
        jam.drive(0, -4);
        CHECK.due("across by -4", jam.columnOf(0), 0);
        tell("far drives", jam, 5, 18);
        CHECK.badState("4 is in range, but too far", () -> jam.drive(1, -4));
        CHECK.badState("-4 is in range, but too far", () -> jam.drive(0, -4));
    }

    /** "if it cannot go so far" */
    private static void driveRefusesOneCellTooFar() {
        int[] forward = {1, 4, 0, 0, 0, 0};
        int[] back = {1, 0, 2, 2, 1, 0};
        for (int vehicle = 0; vehicle < 6; vehicle++) {
            for (int cells = 1; cells <= 4; cells++) {
                driveOnSix(vehicle, cells, cells <= forward[vehicle]);
                driveOnSix(vehicle, -cells, cells <= back[vehicle]);
            }
        }
    }

    private static void driveOnSix(int vehicle, int cells, boolean isFree) {
        RampJam jam = Pictures.parked(SIX);
        CHECK.due("six: drive " + vehicle + " by " + cells, Check.outcomeOf(() -> jam.drive(vehicle, cells)),
                isFree ? "nothing thrown" : "IllegalStateException");
        tell("six: drive " + vehicle + " by " + cells, jam, isFree ? 1 : 0, isFree ? Math.abs(cells) : 0);
    }

    private static void refusedDriveChangesNothing() {
        RampJam jam = Pictures.parked(SIX);
        jam.drive(1, 2);
        String before = Pictures.whole(jam);
        CHECK.badIndex("no such vehicle", () -> jam.drive(6, 1));
        CHECK.badArgument("no cells", () -> jam.drive(0, 0));
        CHECK.badArgument("too many cells", () -> jam.drive(1, 5));
        CHECK.badState("too far forward", () -> jam.drive(0, 2));
        CHECK.badState("too far back", () -> jam.drive(1, -3));
        CHECK.badIndex("driveOn", () -> jam.driveOn(-1, true));
        CHECK.due("behind refusals", Pictures.whole(jam), before);
    }

    /** "if there is no such vehicle" */
    private static void driveOnRefusesVehicles() {
        for (RampJam jam : yards()) {
            for (int vehicle : numbersOfNone(jam)) {
                String call = jam.vehicles() + " vehicles: driveOn " + vehicle;
                CHECK.badIndex(call, () -> jam.driveOn(vehicle, true));
                CHECK.badIndex(call + " back", () -> jam.driveOn(vehicle, false));
            }
            tell(jam.vehicles() + " vehicles: driveOn", jam, 0, 0);
        }
    }

    /** "Drives a vehicle as far as it goes.", "Returns how many cells it goes" */
    private static void driveOnGoesAsFarAsItGoes() {
        int[] forward = {1, 4, 0, 0, 0, 0};
        int[] back = {1, 0, 2, 2, 1, 0};
        for (int vehicle = 0; vehicle < 6; vehicle++) {
            driveOnOnSix(vehicle, true, forward[vehicle]);
            driveOnOnSix(vehicle, false, back[vehicle]);
        }
        RampJam alone = Pictures.parked(ALONE);
        CHECK.due("the whole row", alone.driveOn(0, true), 4);
        CHECK.due("the whole row back", alone.driveOn(0, false), 4);
        tell("the whole row", alone, 2, 8);
    }

    private static void driveOnOnSix(int vehicle, boolean isForward, int way) {
        RampJam jam = Pictures.parked(SIX);
        int place = jam.rowOf(vehicle) + jam.columnOf(vehicle);
        String call = "six: driveOn " + vehicle + (isForward ? "" : " back");
        CHECK.due(call, jam.driveOn(vehicle, isForward), way);
        CHECK.due(call + ": place", jam.rowOf(vehicle) + jam.columnOf(vehicle), isForward ? place + way : place - way);
        tell(call, jam, way > 0 ? 1 : 0, way);
    }

    /** "with 0 cells there is no move" */
    private static void driveOnByNoneIsNoMove() {
        RampJam jam = Pictures.parked(ALONE);
        CHECK.due("at the left border", jam.driveOn(0, false), 0);
        tell("at the left border", jam, 0, 0);
        jam.drive(0, 4);
        CHECK.due("at the right border", jam.driveOn(0, true), 0);
        tell("at the right border", jam, 1, 4);
        RampJam between = Pictures.parked("..1.../..1.../..0044/..2.../..2333/..2...");
        for (int vehicle = 0; vehicle < 5; vehicle++) {
            CHECK.due("no way on for " + vehicle, between.driveOn(vehicle, true), 0);
        }
        tell("no way on", between, 0, 0);
    }

    /** "Puts all vehicles where they were parked" */
    private static void restartPutsBackWhereParked() {
        RampJam jam = Pictures.parked(SIX);
        jam.restart();
        CHECK.due("before any move", Pictures.of(jam), SIX);
        jam.driveOn(0, true);
        jam.driveOn(1, true);
        jam.driveOn(2, false);
        jam.driveOn(3, false);
        jam.restart();
        CHECK.due("behind moves", Pictures.of(jam), SIX);
        jam.restart();
        CHECK.due("twice", Pictures.of(jam), SIX);
        RampJam solved = Pictures.parked("....../....../00..1./....1./....../......");
        CHECK.due("solve", solved.solve(), 2);
        solved.restart();
        CHECK.due("behind solve", Pictures.of(solved), "....../....../00..1./....1./....../......");
    }

    /** "moves count from 0 again" */
    private static void restartCountsFromZero() {
        RampJam jam = Pictures.parked(ALONE);
        jam.drive(0, 3);
        jam.drive(0, -1);
        jam.restart();
        tell("behind restart", jam, 0, 0);
        jam.drive(0, 2);
        tell("a move on", jam, 1, 2);
        jam.restart();
        jam.restart();
        tell("behind two", jam, 0, 0);
    }

    /** "The ramp stays where it is" */
    private static void restartLeavesTheRamp() {
        RampJam jam = Pictures.parked("....../....../00..../....../....../111...");
        jam.restart();
        CHECK.due("no ramp comes", jam.freeWay(1, true), 3);
        jam.ramp(5, 4);
        jam.driveOn(1, true);
        jam.restart();
        CHECK.due("the ramp stays", jam.freeWay(1, true), 1);
        CHECK.badState("a lorry over it", () -> jam.park(3, false, 3, 4));
        CHECK.due("the ramp in looks", jam.positions(), 10);
    }

    /** "vehicles can be parked and the ramp be moved again then": vehicles */
    private static void restartLetsParkAgain() {
        RampJam jam = Pictures.parked(ALONE);
        jam.drive(0, 2);
        jam.restart();
        CHECK.badState("where the car was parked", () -> jam.park(2, false, 1, 1));
        CHECK.due("where it had driven", jam.park(2, false, 2, 3), 1);
        jam.drive(1, 2);
        jam.drive(0, 4);
        jam.restart();
        CHECK.due("both put back", Pictures.of(jam), "....../....../00.1../...1../....../......");
        CHECK.due("a third", jam.park(4, true, 5, 1), 2);
        CHECK.due("all three", Pictures.of(jam), "....../....../00.1../...1../....../.2222.");
    }

    /** "vehicles can be parked and the ramp be moved again then": the ramp */
    private static void restartLetsMoveTheRampAgain() {
        RampJam jam = Pictures.parked("....../....../00..../....../....../111...");
        jam.ramp(5, 4);
        jam.driveOn(1, true);
        CHECK.badState("before restart", () -> jam.ramp(5, 5));
        jam.restart();
        jam.ramp(5, 5);
        CHECK.due("moved", jam.freeWay(1, true), 2);
        CHECK.badState("under the lorry", () -> jam.ramp(5, 0));
        jam.drive(1, 2);
        jam.restart();
        jam.ramp(5, 3);
        CHECK.due("moved where the lorry had driven", jam.freeWay(1, true), 0);
    }

    private static void restartOfAnEmptyYard() {
        RampJam jam = new RampJam();
        jam.ramp(4, 4);
        jam.restart();
        tell("empty", jam, 0, 0);
        CHECK.due("vehicles", jam.vehicles(), 0);
        CHECK.badArgument("the first is a car along the row 2 yet", () -> jam.park(2, true, 1, 0));
        CHECK.due("the car", jam.park(2, true, 2, 0), 0);
        CHECK.badState("a lorry on the ramp", () -> jam.park(3, true, 4, 2));
    }

    /** "The row of the place of a vehicle.", "Returns 0 to 5." */
    private static void rowOfIsZeroToFive() {
        RampJam jam = Pictures.parked("11...2/.....2/00.3../...3../...3../444...");
        int[] rows = {2, 0, 0, 2, 5};
        for (int vehicle = 0; vehicle < 5; vehicle++) {
            CHECK.due("row of " + vehicle, jam.rowOf(vehicle), rows[vehicle]);
        }
        jam.drive(2, 4);
        CHECK.due("down at the lower border", jam.rowOf(2), 4);
        jam.drive(1, 1);
        CHECK.due("across, the row stays", jam.rowOf(1), 0);
    }

    /** "if there is no such vehicle" */
    private static void rowOfRefusesVehicles() {
        for (RampJam jam : yards()) {
            for (int vehicle : numbersOfNone(jam)) {
                CHECK.badIndex(jam.vehicles() + " vehicles: rowOf " + vehicle, () -> jam.rowOf(vehicle));
            }
        }
        CHECK.due("the last of nine", Pictures.parked(NINE).rowOf(8), 3);
    }

    /** "The column of the place of a vehicle.", "Returns 0 to 5." */
    private static void columnOfIsZeroToFive() {
        RampJam jam = Pictures.parked("1....2/1....2/00.3../...3../...3../..44..");
        int[] columns = {0, 0, 5, 3, 2};
        for (int vehicle = 0; vehicle < 5; vehicle++) {
            CHECK.due("column of " + vehicle, jam.columnOf(vehicle), columns[vehicle]);
        }
        jam.drive(4, 2);
        CHECK.due("across at the right border", jam.columnOf(4), 4);
        jam.drive(2, 2);
        CHECK.due("down, the column stays", jam.columnOf(2), 5);
    }

    /** "if there is no such vehicle" */
    private static void columnOfRefusesVehicles() {
        for (RampJam jam : yards()) {
            for (int vehicle : numbersOfNone(jam)) {
                CHECK.badIndex(jam.vehicles() + " vehicles: columnOf " + vehicle, () -> jam.columnOf(vehicle));
            }
        }
        CHECK.due("the last of nine", Pictures.parked(NINE).columnOf(8), 2);
    }

    /** "Returns its number; -1 if the cell is free." */
    private static void atTellsNumbersOrMinusOne() {
        RampJam jam = Pictures.parked("1....2/1....2/00..../3....4/3....4/3....4");
        jam.ramp(0, 3);
        CHECK.due("upper left", jam.at(0, 0), 1);
        CHECK.due("upper right", jam.at(0, 5), 2);
        CHECK.due("lower left", jam.at(5, 0), 3);
        CHECK.due("lower right", jam.at(5, 5), 4);
        CHECK.due("the car 0", jam.at(2, 1), 0);
        CHECK.due("beside it", jam.at(2, 2), -1);
        CHECK.due("the ramp", jam.at(0, 3), -1);
        jam.drive(0, 2);
        CHECK.due("where it was", jam.at(2, 1), -1);
        CHECK.due("where it is", jam.at(2, 2), 0);
        CHECK.due("the last of nine", Pictures.parked(NINE).at(3, 3), 8);
        CHECK.due("without vehicles", new RampJam().at(2, 0), -1);
    }

    /** "if row or column is out of range": row, "0 to 5" */
    private static void atRefusesRowOutOfRange() {
        for (RampJam jam : yards()) {
            for (int row : OUTSIDE) {
                CHECK.badArgument("at row " + row, () -> jam.at(row, 0));
                CHECK.badArgument("at row " + row + ", the last column", () -> jam.at(row, 5));
            }
        }
    }

    /** "if row or column is out of range": column, "0 to 5" */
    private static void atRefusesColumnOutOfRange() {
        for (RampJam jam : yards()) {
            for (int column : OUTSIDE) {
                CHECK.badArgument("at column " + column, () -> jam.at(0, column));
                CHECK.badArgument("at column " + column + ", the last row", () -> jam.at(5, column));
            }
        }
    }

    /** "Returns 0 to 4." */
    private static void freeWayIsZeroToFour() {
        RampJam jam = Pictures.parked("1...../1...../..00../....../....../......");
        CHECK.due("down 4", jam.freeWay(1, true), 4);
        CHECK.due("up 0", jam.freeWay(1, false), 0);
        jam.drive(1, 4);
        CHECK.due("down 0", jam.freeWay(1, true), 0);
        CHECK.due("up 4", jam.freeWay(1, false), 4);
        for (int column = 0; column <= 4; column++) {
            jam.driveOn(0, false);
            if (column > 0) {
                jam.drive(0, column);
            }
            CHECK.due("right from " + column, jam.freeWay(0, true), 4 - column);
            CHECK.due("left from " + column, jam.freeWay(0, false), column);
        }
    }

    /** "if there is no such vehicle" */
    private static void freeWayRefusesVehicles() {
        for (RampJam jam : yards()) {
            for (int vehicle : numbersOfNone(jam)) {
                String call = jam.vehicles() + " vehicles: freeWay " + vehicle;
                CHECK.badIndex(call, () -> jam.freeWay(vehicle, true));
                CHECK.badIndex(call + " back", () -> jam.freeWay(vehicle, false));
            }
        }
    }

    /** "with greater columns than those of the car 0" */
    private static void inTheWayCountsGreaterColumnsOnly() {
        CHECK.due("at lesser columns", Pictures.parked("....../..3.../123.00/123.../.2..../......").inTheWay(), 0);
        CHECK.due("just right of it", Pictures.parked("....../....../.001../...1../....../......").inTheWay(), 1);
        CHECK.due("in the last column", Pictures.parked("....../....../00...1/.....1/....../......").inTheWay(), 1);
        CHECK.due("on both sides", Pictures.parked("....../....1./2.001./2...../....../......").inTheWay(), 1);
        CHECK.due("as many as can be", Pictures.parked("....../....../001234/..1234/....../......").inTheWay(), 4);
    }

    /** "fill cells of the row 2" */
    private static void inTheWayCountsTheRowTwoOnly() {
        CHECK.due("above and below", Pictures.parked("..1222/..1.../00..../..3444/..3..5/..3..5").inTheWay(), 0);
        CHECK.due("down by the last cell", Pictures.parked("..1.../..1.../001.../....../....../......").inTheWay(), 1);
        CHECK.due("down by the first cell", Pictures.parked("....../....../001.../..1.../..1.../......").inTheWay(), 1);
        RampJam jam = Pictures.parked("....../...1../00.1../....../....../......");
        jam.drive(1, -1);
        CHECK.due("driven out of it", jam.inTheWay(), 0);
        jam.drive(1, 2);
        CHECK.due("driven into it", jam.inTheWay(), 1);
    }

    /** "How many vehicles fill cells": each is counted once. */
    private static void inTheWayCountsVehiclesNotCells() {
        for (int size = 2; size <= 4; size++) {
            RampJam jam = Pictures.parked(ALONE);
            jam.park(size, true, 2, 2);
            CHECK.due(size + " cells along the row", jam.inTheWay(), 1);
        }
        CHECK.due("two cars along the row", Pictures.parked("....../....../001122/....../....../......").inTheWay(), 2);
    }

    /** "0 without vehicles" */
    private static void inTheWayWithoutVehicles() {
        RampJam jam = new RampJam();
        CHECK.due("new", jam.inTheWay(), 0);
        jam.ramp(2, 4);
        CHECK.due("a ramp is none", jam.inTheWay(), 0);
        jam.park(2, true, 2, 0);
        CHECK.due("the car itself is none", jam.inTheWay(), 0);
    }

    /** "with greater columns than those of the car 0": there are none any more. */
    private static void inTheWayAtTheWayOut() {
        CHECK.due("at the way out", Pictures.parked("....11/....22/333.00/....44/....55/......").inTheWay(), 0);
        RampJam jam = Pictures.parked("....../....../.0011./....../....../......");
        CHECK.due("before", jam.inTheWay(), 1);
        jam.drive(1, 1);
        jam.drive(0, 1);
        CHECK.due("right behind the other", jam.inTheWay(), 1);
    }

    /** "Whether the jam is solved.": not without the car 0. */
    private static void solvedWithoutVehicles() {
        RampJam jam = new RampJam();
        CHECK.due("new", jam.isSolved(), false);
        jam.ramp(2, 4);
        jam.restart();
        CHECK.due("with a ramp", jam.isSolved(), false);
    }

    /** "as long as the car 0 fills the columns 4 and 5" */
    private static void solvedByTheCarZeroOnly() {
        CHECK.due("another in its place", Pictures.parked("....../....../00..11/....../....../......").isSolved(), false);
        CHECK.due("another down at the row 4", Pictures.parked("....../....../00..../....../1...../1.....").isSolved(), false);
        for (int column = 0; column <= 4; column++) {
            RampJam jam = new RampJam();
            jam.park(2, true, 2, column);
            CHECK.due("in the column " + column, jam.isSolved(), column == 4);
        }
    }

    /** "The moves that were made since the beginning, or the last restart." */
    private static void movesAreCountedSinceTheBeginning() {
        RampJam jam = Pictures.parked("....../....../00..1./....1./....../......");
        tell("parked", jam, 0, 0);
        jam.drive(0, 2);
        jam.drive(0, -2);
        tell("forth and back", jam, 2, 4);
        jam.hint();
        jam.canReach(0, 4);
        jam.fewestMoves();
        tell("looked", jam, 2, 4);
        CHECK.due("solve", jam.solve(), 2);
        tell("solved", jam, 4, 10);
        CHECK.due("solve again", jam.solve(), 0);
        tell("solved again", jam, 4, 10);
        jam.restart();
        tell("restarted", jam, 0, 0);
        CHECK.due("solve behind restart", jam.solve(), 2);
        tell("solved behind restart", jam, 2, 6);
    }

    /** "The cells that were driven since then, together.": those back are counted too. */
    private static void drivenCellsAreCountedTogether() {
        RampJam jam = Pictures.parked(SIX);
        jam.drive(3, -1);
        CHECK.due("back by 1", jam.driven(), 1);
        jam.drive(1, 1);
        CHECK.due("forward by 1", jam.driven(), 2);
        CHECK.due("driveOn back", jam.driveOn(2, false), 3);
        CHECK.due("on back by 3", jam.driven(), 5);
        CHECK.due("driveOn back again", jam.driveOn(2, false), 0);
        CHECK.due("on by none", jam.driven(), 5);
    }
}
