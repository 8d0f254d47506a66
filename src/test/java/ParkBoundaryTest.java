/**
 * Sentences of the document that name a boundary case, each with a test of its own that quotes it:
 * "What it is", "Terms" of vehicles and ramp, and promises 1 (a new object), 2 (park), 3 (ramp)
 * and 7 (vehicles).
 */
public final class ParkBoundaryTest {
    private static final Check CHECK = new Check();
    private static final int[] OUTSIDE = {-1, 6, -2, 7, Integer.MIN_VALUE, Integer.MAX_VALUE};
    private static final int[] WRONG_SIZES = {1, 5, 0, -1, -2, 6, Integer.MIN_VALUE, Integer.MAX_VALUE};
    private static final String ALONE = "....../....../00..../....../....../......";
    private static final String NINE = "112233/445566/00..../7788../....../......";
    private static final String BUSY = "....11/2...../2.00../2.3333/4...../4.555.";

    public static void main(String[] args) {
        wayOutIsAtTheRightOfRowTwo();
        lastCallIsAnswered();
        lastCallIsAnsweredBehindLooks();
        numbersComeFromZero();
        sizesAreTwoToFour();
        placeIsTheLeastCell();
        nineVehiclesAreParkedNotTen();
        nineStayNineBehindRestart();
        vehiclesMayTouch();
        noTwoFillTheSameCell();
        rampIsOnOneCell();
        rampMayBeBuiltWhereItIs();
        carsParkOnTheRamp();
        lorriesMustNotParkOnTheRamp();
        newYardIsEmpty();
        newYardHasNoRamp();
        parkRefusesCellsOutOfRange();
        parkRefusesRowOutOfRange();
        parkRefusesColumnOutOfRange();
        parkRefusesWhatWouldNotStandWithin();
        parkRefusesAnotherFirstVehicle();
        onlyTheFirstMustBeTheCar();
        parkRefusesBehindMoves();
        parkComesBehindWhatIsNoMove();
        refusedParkingChangesNothing();
        rampRefusesRowOutOfRange();
        rampRefusesColumnOutOfRange();
        rampRefusesCellsOfLorries();
        rampRefusesBehindMoves();
        rampComesBehindWhatIsNoMove();
        rampComesBeforeVehicles();
        refusedRampChangesNothing();
        vehiclesAreCountedFromNoneToNine();
        CHECK.end();
    }

    /** "with one way out at the right end of the row 2" */
    private static void wayOutIsAtTheRightOfRowTwo() {
        CHECK.due("at the right end", Pictures.parked("....../....../....00/....../....../......").isSolved(), true);
        CHECK.due("at the left end", Pictures.parked(ALONE).isSolved(), false);
        RampJam others = Pictures.parked("....11/....22/00..../....33/....44/....55");
        CHECK.due("others at the right ends", others.isSolved(), false);
    }

    /** "An object is used for at most 512 calls after it has been made" */
    private static void lastCallIsAnswered() {
        RampJam jam = new RampJam();
        jam.park(2, true, 2, 0);
        for (int i = 0; i < 255; i++) {
            jam.drive(0, 4);
            jam.drive(0, -4);
        }
        CHECK.due("the 512th call, driven", jam.driven(), 2040);
        RampJam other = new RampJam();
        other.park(2, true, 2, 0);
        for (int i = 0; i < 510; i++) {
            other.drive(0, i % 2 == 0 ? 1 : -1);
        }
        CHECK.due("the 512th call, moves", other.moves(), 510);
    }

    /** "An object is used for at most 512 calls after it has been made" */
    private static void lastCallIsAnsweredBehindLooks() {
        RampJam jam = Pictures.parked("11..../22..../00..../33..../444.../5555..");
        for (int i = 0; i < 252; i++) {
            CHECK.due("solve " + i, jam.solve(), 1);
            CHECK.due("driveOn " + i, jam.driveOn(0, false), 4);
        }
        CHECK.due("the 511th call, hint", jam.hint(), 8);
        CHECK.due("the 512th call, positions", jam.positions(), 800);
    }

    /** "A vehicle has the number in which it came, from 0" */
    private static void numbersComeFromZero() {
        RampJam jam = new RampJam();
        CHECK.badArgument("refused before the first", () -> jam.park(2, true, 3, 0));
        CHECK.due("the first", jam.park(2, true, 2, 0), 0);
        CHECK.badState("refused before the second", () -> jam.park(2, true, 2, 1));
        CHECK.due("the second", jam.park(4, true, 5, 2), 1);
        CHECK.badArgument("refused before the third", () -> jam.park(5, true, 0, 0));
        CHECK.due("the third", jam.park(3, false, 3, 0), 2);
        CHECK.due("all three", Pictures.of(jam), "....../....../00..../2...../2...../2.1111");
    }

    /** "fills 2 cells (a car) to 4 cells (a long lorry)", "2 to 4" */
    private static void sizesAreTwoToFour() {
        RampJam across = Pictures.parked(ALONE);
        for (int size = 2; size <= 4; size++) {
            CHECK.due("across " + size, across.park(size, true, size + 1, 1), size - 1);
        }
        CHECK.due("across", Pictures.of(across), "....../....../00..../.11.../.222../.3333.");
        RampJam down = Pictures.parked(ALONE);
        for (int size = 2; size <= 4; size++) {
            CHECK.due("down " + size, down.park(size, false, 1, size + 1), size - 1);
        }
        CHECK.due("down", Pictures.of(down), "....../...123/00.123/....23/.....3/......");
    }

    /** "the cell with the least row and column is told as its place" */
    private static void placeIsTheLeastCell() {
        for (int size = 2; size <= 4; size++) {
            for (int place = 0; place + size <= 6; place++) {
                RampJam across = Pictures.parked(ALONE);
                across.park(size, true, 5, place);
                CHECK.due(size + " across: row", across.rowOf(1), 5);
                CHECK.due(size + " across: column", across.columnOf(1), place);
                CHECK.due(size + " across: last cell", across.at(5, place + size - 1), 1);
                RampJam down = Pictures.parked(ALONE);
                down.park(size, false, place, 5);
                CHECK.due(size + " down: row", down.rowOf(1), place);
                CHECK.due(size + " down: column", down.columnOf(1), 5);
                CHECK.due(size + " down: last cell", down.at(place + size - 1, 5), 1);
            }
        }
    }

    /** "There may be at most 9 vehicles", "if there are 9 vehicles" */
    private static void nineVehiclesAreParkedNotTen() {
        RampJam jam = Pictures.parked("112233/445566/00..../77..../....../......");
        CHECK.due("eight", jam.vehicles(), 8);
        CHECK.due("the ninth", jam.park(2, true, 3, 2), 8);
        CHECK.badState("a tenth car", () -> jam.park(2, true, 5, 0));
        CHECK.badState("a tenth lorry", () -> jam.park(3, false, 3, 5));
        CHECK.badState("a tenth long lorry", () -> jam.park(4, true, 5, 2));
        CHECK.due("nine", jam.vehicles(), 9);
        CHECK.due("the ninth drives", jam.driveOn(8, true), 2);
        CHECK.due("picture", Pictures.of(jam), "112233/445566/00..../77..88/....../......");
    }

    /** "There may be at most 9 vehicles": driving and starting again make no place for a tenth. */
    private static void nineStayNineBehindRestart() {
        RampJam jam = Pictures.parked(NINE);
        jam.driveOn(8, true);
        jam.restart();
        CHECK.badState("a tenth behind restart", () -> jam.park(2, true, 5, 0));
        CHECK.due("nine behind restart", jam.vehicles(), 9);
        CHECK.due("picture behind restart", Pictures.of(jam), NINE);
    }

    /** "no two of them fill the same cell": the cells beside are free for others. */
    private static void vehiclesMayTouch() {
        RampJam jam = Pictures.parked("....../....../..00../....../....../......");
        CHECK.due("left of the car", jam.park(2, true, 2, 0), 1);
        CHECK.due("right of the car", jam.park(2, true, 2, 4), 2);
        CHECK.due("above the car", jam.park(2, false, 0, 2), 3);
        CHECK.due("below the car", jam.park(3, false, 3, 3), 4);
        CHECK.due("picture", Pictures.of(jam), "..3.../..3.../110022/...4../...4../...4..");
    }

    /** "no two of them fill the same cell", "if a cell is filled already" */
    private static void noTwoFillTheSameCell() {
        String cells = BUSY.replace("/", "");
        for (int row = 0; row < 6; row++) {
            for (int column = 0; column < 6; column++) {
                for (int size = 2; size <= 4; size++) {
                    if (column + size <= 6) {
                        String filled = cells.substring(6 * row + column, 6 * row + column + size);
                        parkOnBusyYard(size, true, row, column, filled.replace(".", "").isEmpty());
                    }
                    if (row + size <= 6) {
                        boolean isFree = true;
                        for (int i = 0; i < size; i++) {
                            isFree &= cells.charAt(6 * (row + i) + column) == '.';
                        }
                        parkOnBusyYard(size, false, row, column, isFree);
                    }
                }
            }
        }
    }

    private static void parkOnBusyYard(int size, boolean isAcross, int row, int column, boolean isFree) {
        RampJam jam = Pictures.parked(BUSY);
        String call = "busy: " + size + (isAcross ? " across " : " down ") + row + " " + column;
        if (isFree) {
            CHECK.due(call, jam.park(size, isAcross, row, column), 6);
        } else {
            CHECK.badState(call, () -> jam.park(size, isAcross, row, column));
            CHECK.due(call + ": picture", Pictures.of(jam), BUSY);
        }
    }

    /** "There may be a ramp on one cell", "Builds the ramp, or moves it" */
    private static void rampIsOnOneCell() {
        RampJam jam = Pictures.parked(ALONE);
        jam.ramp(4, 1);
        jam.ramp(5, 5);
        CHECK.due("a lorry where it was", jam.park(3, true, 4, 0), 1);
        CHECK.badState("a lorry where it is", () -> jam.park(3, true, 5, 3));
        jam.ramp(0, 0);
        CHECK.due("a lorry where it was last", jam.park(3, true, 5, 3), 2);
        CHECK.badState("a lorry where it is last", () -> jam.park(4, true, 0, 0));
    }

    /** "Builds the ramp, or moves it" */
    private static void rampMayBeBuiltWhereItIs() {
        RampJam jam = Pictures.parked(ALONE);
        jam.ramp(5, 3);
        jam.ramp(5, 3);
        CHECK.badState("the ramp is there", () -> jam.park(3, true, 5, 1));
        jam.ramp(5, 4);
        CHECK.due("the ramp has gone", jam.park(3, true, 5, 1), 1);
    }

    /** "Cars drive over it and stand on it" */
    private static void carsParkOnTheRamp() {
        RampJam first = new RampJam();
        first.ramp(2, 0);
        CHECK.due("car 0 by its first cell", first.park(2, true, 2, 0), 0);
        first.ramp(2, 1);
        first.ramp(4, 4);
        CHECK.due("a car by its last cell", first.park(2, true, 4, 3), 1);
        RampJam down = Pictures.parked(ALONE);
        down.ramp(4, 4);
        CHECK.due("a car down by its first cell", down.park(2, false, 4, 4), 1);
        down.ramp(1, 1);
        CHECK.due("a car down by its last cell", down.park(2, false, 0, 1), 2);
    }

    /** "a lorry, which fills 3 or 4 cells, must not fill it at any time", "if a lorry would fill the ramp" */
    private static void lorriesMustNotParkOnTheRamp() {
        for (int size = 3; size <= 4; size++) {
            for (int ramp = 0; ramp < 6; ramp++) {
                for (int place = 0; place + size <= 6; place++) {
                    boolean isFree = ramp < place || ramp >= place + size;
                    RampJam across = Pictures.parked(ALONE);
                    across.ramp(4, ramp);
                    parkLorry(across, size, true, 4, place, isFree);
                    RampJam down = Pictures.parked(ALONE);
                    down.ramp(ramp, 3);
                    parkLorry(down, size, false, place, 3, isFree);
                }
            }
        }
    }

    private static void parkLorry(RampJam jam, int size, boolean isAcross, int row, int column, boolean isFree) {
        String call = "lorry of " + size + (isAcross ? " across " : " down ") + row + " " + column;
        if (isFree) {
            CHECK.due(call, jam.park(size, isAcross, row, column), 1);
        } else {
            CHECK.badState(call, () -> jam.park(size, isAcross, row, column));
        }
    }

    /** "An empty yard without a ramp." */
    private static void newYardIsEmpty() {
        RampJam jam = new RampJam();
        CHECK.due("new", Pictures.whole(jam),
                "....../....../....../....../....../...... vehicles 0 moves 0 driven 0 positions 1 hint -1");
        CHECK.due("new: solved", jam.isSolved(), false);
        CHECK.due("new: fewestMoves", jam.fewestMoves(), -1);
        CHECK.due("new: inTheWay", jam.inTheWay(), 0);
    }

    /** "An empty yard without a ramp." */
    private static void newYardHasNoRamp() {
        for (int row = 0; row < 6; row++) {
            for (int column = 0; column < 6; column += 3) {
                RampJam jam = Pictures.parked(column == 0
                        ? "....../....../....00/....../....../......"
                        : ALONE);
                CHECK.due("lorry on " + row + " " + column, jam.park(3, true, row, column), 1);
            }
        }
    }

    /** "if cells, row or column is out of range": cells, "2 to 4" */
    private static void parkRefusesCellsOutOfRange() {
        for (int size : WRONG_SIZES) {
            CHECK.badArgument(size + " cells first", () -> new RampJam().park(size, true, 2, 0));
            CHECK.badArgument(size + " cells across", () -> Pictures.parked(ALONE).park(size, true, 0, 0));
            CHECK.badArgument(size + " cells down", () -> Pictures.parked(ALONE).park(size, false, 0, 5));
        }
    }

    /** "if cells, row or column is out of range": row, "0 to 5" */
    private static void parkRefusesRowOutOfRange() {
        for (int row : OUTSIDE) {
            CHECK.badArgument("first in row " + row, () -> new RampJam().park(2, true, row, 0));
            for (int size = 2; size <= 4; size++) {
                int cells = size;
                CHECK.badArgument("across in row " + row, () -> Pictures.parked(ALONE).park(cells, true, row, 1));
                CHECK.badArgument("down from row " + row, () -> Pictures.parked(ALONE).park(cells, false, row, 5));
            }
        }
        CHECK.due("across in row 0", Pictures.parked(ALONE).park(2, true, 0, 0), 1);
        CHECK.due("across in row 5", Pictures.parked(ALONE).park(2, true, 5, 0), 1);
    }

    /** "if cells, row or column is out of range": column, "0 to 5" */
    private static void parkRefusesColumnOutOfRange() {
        for (int column : OUTSIDE) {
            CHECK.badArgument("first in column " + column, () -> new RampJam().park(2, true, 2, column));
            for (int size = 2; size <= 4; size++) {
                int cells = size;
                CHECK.badArgument("across from column " + column,
                        () -> Pictures.parked(ALONE).park(cells, true, 4, column));
                CHECK.badArgument("down in column " + column,
                        () -> Pictures.parked(ALONE).park(cells, false, 1, column));
            }
        }
        CHECK.due("down in column 0", Pictures.parked(ALONE).park(2, false, 0, 0), 1);
        CHECK.due("down in column 5", Pictures.parked(ALONE).park(2, false, 0, 5), 1);
    }

    /** "if it would not stand within the yard" */
    private static void parkRefusesWhatWouldNotStandWithin() {
        for (int size = 2; size <= 4; size++) {
            int cells = size;
            int last = 6 - size;
            CHECK.due(size + " across at the right border", Pictures.parked(ALONE).park(size, true, 3, last), 1);
            CHECK.due(size + " down at the lower border", Pictures.parked(ALONE).park(size, false, last, 5), 1);
            for (int place = last + 1; place <= 5; place++) {
                int at = place;
                CHECK.badArgument(size + " across at " + at, () -> Pictures.parked(ALONE).park(cells, true, 3, at));
                CHECK.badArgument(size + " down at " + at, () -> Pictures.parked(ALONE).park(cells, false, at, 5));
            }
        }
        CHECK.due("the first at the right border", new RampJam().park(2, true, 2, 4), 0);
        CHECK.badArgument("the first beyond it", () -> new RampJam().park(2, true, 2, 5));
    }

    /** "if the first vehicle is not a car along the row 2" */
    private static void parkRefusesAnotherFirstVehicle() {
        for (int size = 2; size <= 4; size++) {
            for (int row = 0; row < 6; row++) {
                int cells = size;
                int at = row;
                boolean isTheCar = size == 2 && row == 2;
                for (int column = 0; column + size <= 6; column++) {
                    int from = column;
                    CHECK.due("first " + size + " across " + row + " " + column,
                            Check.outcomeOf(() -> new RampJam().park(cells, true, at, from)),
                            isTheCar ? "nothing thrown" : "IllegalArgumentException");
                }
                CHECK.badArgument("first " + size + " down " + row, () -> new RampJam().park(cells, false, at, 1));
            }
        }
    }

    /** "if the first vehicle is not a car along the row 2": the others may be. */
    private static void onlyTheFirstMustBeTheCar() {
        RampJam jam = Pictures.parked(ALONE);
        CHECK.due("another car along the row 2", jam.park(2, true, 2, 2), 1);
        CHECK.due("a car down through the row 2", jam.park(2, false, 2, 4), 2);
        CHECK.due("a lorry down through the row 2", jam.park(3, false, 1, 5), 3);
        CHECK.due("a car along the row 1", jam.park(2, true, 1, 0), 4);
        CHECK.due("a long lorry along the row 3", jam.park(4, true, 3, 0), 5);
    }

    /** "or if moves were made" */
    private static void parkRefusesBehindMoves() {
        RampJam driven = Pictures.parked(ALONE);
        driven.drive(0, 1);
        CHECK.badState("behind a drive", () -> driven.park(2, true, 0, 0));
        driven.drive(0, -1);
        CHECK.badState("behind a drive forth and back", () -> driven.park(2, true, 0, 0));
        RampJam drivenOn = Pictures.parked(ALONE);
        drivenOn.driveOn(0, true);
        CHECK.badState("behind driveOn", () -> drivenOn.park(2, true, 0, 0));
        RampJam solved = Pictures.parked(ALONE);
        solved.solve();
        CHECK.badState("behind solve", () -> solved.park(2, true, 0, 0));
        CHECK.due("vehicles", driven.vehicles() + drivenOn.vehicles() + solved.vehicles(), 3);
    }

    /** "or if moves were made": what was refused, or goes nowhere, or only looks, is no move. */
    private static void parkComesBehindWhatIsNoMove() {
        RampJam jam = Pictures.parked("....../....../....00/....../....../......");
        CHECK.badState("a drive too far", () -> jam.drive(0, 1));
        CHECK.badArgument("a drive by 0", () -> jam.drive(0, 0));
        CHECK.badIndex("a drive of none", () -> jam.drive(1, 1));
        CHECK.due("a drive nowhere", jam.driveOn(0, true), 0);
        CHECK.due("a jam solved already", jam.solve(), 0);
        CHECK.due("a way to look at", jam.freeWay(0, false), 4);
        jam.restart();
        CHECK.due("park", jam.park(4, true, 2, 0), 1);
        RampJam shut = Pictures.parked("....../....../00..11/....../....../......");
        CHECK.due("a jam without a way", shut.solve(), -1);
        CHECK.due("park behind it", shut.park(2, true, 0, 0), 2);
    }

    private static void refusedParkingChangesNothing() {
        RampJam jam = Pictures.parked(BUSY);
        jam.ramp(1, 3);
        String before = Pictures.whole(jam);
        CHECK.badArgument("5 cells", () -> jam.park(5, true, 1, 1));
        CHECK.badArgument("row 6", () -> jam.park(2, true, 6, 1));
        CHECK.badArgument("column -1", () -> jam.park(2, true, 1, -1));
        CHECK.badArgument("beyond the border", () -> jam.park(3, true, 1, 4));
        CHECK.due("behind bad arguments", Pictures.whole(jam), before);
        CHECK.badState("onto a vehicle", () -> jam.park(2, true, 1, 0));
        CHECK.badState("onto the ramp", () -> jam.park(3, true, 1, 1));
        CHECK.due("behind bad states", Pictures.whole(jam), before);
        jam.drive(0, 1);
        String driven = Pictures.whole(jam);
        CHECK.badState("behind a move", () -> jam.park(2, true, 1, 1));
        CHECK.due("behind a move", Pictures.whole(jam), driven);
        jam.restart();
        CHECK.due("behind restart", Pictures.whole(jam), before);
    }

    /** "if row or column is out of range": row, "0 to 5" */
    private static void rampRefusesRowOutOfRange() {
        for (int row : OUTSIDE) {
            CHECK.badArgument("row " + row, () -> new RampJam().ramp(row, 0));
            CHECK.badArgument("row " + row + " with vehicles", () -> Pictures.parked(BUSY).ramp(row, 5));
        }
        CHECK.due("row 0", Check.outcomeOf(() -> new RampJam().ramp(0, 3)), "nothing thrown");
        CHECK.due("row 5", Check.outcomeOf(() -> new RampJam().ramp(5, 3)), "nothing thrown");
    }

    /** "if row or column is out of range": column, "0 to 5" */
    private static void rampRefusesColumnOutOfRange() {
        for (int column : OUTSIDE) {
            CHECK.badArgument("column " + column, () -> new RampJam().ramp(0, column));
            CHECK.badArgument("column " + column + " with vehicles", () -> Pictures.parked(BUSY).ramp(5, column));
        }
        CHECK.due("column 0", Check.outcomeOf(() -> new RampJam().ramp(3, 0)), "nothing thrown");
        CHECK.due("column 5", Check.outcomeOf(() -> new RampJam().ramp(3, 5)), "nothing thrown");
    }

    /** "if a lorry fills that cell": of 3 and of 4 cells, and no car. */
    private static void rampRefusesCellsOfLorries() {
        String cells = BUSY.replace("/", "");
        for (int cell = 0; cell < 36; cell++) {
            int row = cell / 6;
            int column = cell % 6;
            boolean isOfLorry = "235".indexOf(cells.charAt(cell)) >= 0;
            CHECK.due("ramp on " + row + " " + column,
                    Check.outcomeOf(() -> Pictures.parked(BUSY).ramp(row, column)),
                    isOfLorry ? "IllegalStateException" : "nothing thrown");
        }
    }

    /** "or moves were made" */
    private static void rampRefusesBehindMoves() {
        RampJam driven = Pictures.parked(ALONE);
        driven.drive(0, 1);
        CHECK.badState("behind a drive", () -> driven.ramp(5, 5));
        driven.drive(0, -1);
        CHECK.badState("behind a drive forth and back", () -> driven.ramp(5, 5));
        RampJam drivenOn = Pictures.parked(ALONE);
        drivenOn.driveOn(0, true);
        CHECK.badState("behind driveOn", () -> drivenOn.ramp(5, 5));
        RampJam solved = Pictures.parked(ALONE);
        solved.solve();
        CHECK.badState("behind solve", () -> solved.ramp(5, 5));
    }

    /** "or moves were made": what was refused, or goes nowhere, or only looks, is no move. */
    private static void rampComesBehindWhatIsNoMove() {
        RampJam jam = Pictures.parked("....../....../....00/....../....../111...");
        CHECK.badState("a drive too far", () -> jam.drive(0, 1));
        CHECK.badArgument("a drive by 0", () -> jam.drive(0, 0));
        CHECK.due("a drive nowhere", jam.driveOn(0, true), 0);
        CHECK.due("a jam solved already", jam.solve(), 0);
        CHECK.due("a look", jam.positions(), 20);
        jam.ramp(5, 4);
        CHECK.due("the ramp came", jam.freeWay(1, true), 1);
    }

    /** "A new object: an empty yard": a ramp can be built in it. */
    private static void rampComesBeforeVehicles() {
        RampJam jam = new RampJam();
        jam.ramp(2, 3);
        CHECK.due("vehicles", jam.vehicles(), 0);
        CHECK.due("the ramp is no vehicle", jam.at(2, 3), -1);
        CHECK.badArgument("the first is a car yet", () -> jam.park(3, true, 2, 0));
        CHECK.due("the car", jam.park(2, true, 2, 0), 0);
        CHECK.badState("a lorry on the ramp", () -> jam.park(3, false, 1, 3));
    }

    private static void refusedRampChangesNothing() {
        RampJam jam = Pictures.parked("....../111.../.00.../....../....../......");
        jam.ramp(1, 4);
        String before = Pictures.whole(jam);
        CHECK.badArgument("row 6", () -> jam.ramp(6, 0));
        CHECK.badArgument("column -1", () -> jam.ramp(1, -1));
        CHECK.badState("under the lorry", () -> jam.ramp(1, 2));
        CHECK.due("the ramp stays", Pictures.whole(jam), before);
        CHECK.due("the ramp stays where it was", jam.freeWay(1, true), 1);
        jam.drive(0, 1);
        CHECK.badState("behind a move", () -> jam.ramp(1, 3));
        CHECK.due("the ramp stays behind a move", jam.freeWay(1, true), 1);
    }

    /** "How many vehicles there are." */
    private static void vehiclesAreCountedFromNoneToNine() {
        RampJam jam = new RampJam();
        CHECK.due("none", jam.vehicles(), 0);
        jam.park(2, true, 2, 0);
        for (int count = 1; count < 9; count++) {
            CHECK.due("so many", jam.vehicles(), count);
            jam.park(2, true, count < 4 ? 0 : count < 7 ? 1 : 3, 2 * ((count - 1) % 3));
        }
        CHECK.due("nine", jam.vehicles(), 9);
        jam.driveOn(0, true);
        CHECK.due("nine behind a move", jam.vehicles(), 9);
    }
}
