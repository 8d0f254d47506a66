/** Promises 1 (a new object), 2 (park), 3 (ramp) and 7 (vehicles). */
public final class ParkingTest {
    private static final Check CHECK = new Check();
    private static final String EMPTY = "....../....../....../....../....../......";

    public static void main(String[] args) {
        newYardIsEmpty();
        newYardHasNoRamp();
        parkNumbersAndFills();
        parkKeepsWithinTheYard();
        parkRefusesArguments();
        firstVehicleIsCarInRowTwo();
        parkRefusesFilledCells();
        parkRefusesTheTenth();
        parkRefusesLorryOnRamp();
        parkRefusesAfterMoves();
        argumentsComeBeforeState();
        rampRefusesArguments();
        rampRefusesUnderLorry();
        rampMoves();
        rampRefusesAfterMoves();
        CHECK.end();
    }

    private static void newYardIsEmpty() {
        RampJam jam = new RampJam();
        CHECK.due("new: picture", Pictures.of(jam), EMPTY);
        CHECK.due("new: vehicles", jam.vehicles(), 0);
        CHECK.due("new: moves", jam.moves(), 0);
        CHECK.due("new: driven", jam.driven(), 0);
        CHECK.due("new: inTheWay", jam.inTheWay(), 0);
        CHECK.due("new: isSolved", jam.isSolved(), false);
        CHECK.due("new: positions", jam.positions(), 1);
        CHECK.due("new: fewestMoves", jam.fewestMoves(), -1);
        CHECK.due("new: hint", jam.hint(), -1);
        CHECK.due("new: solve", jam.solve(), -1);
        jam.restart();
        CHECK.due("new: picture behind restart", Pictures.of(jam), EMPTY);
    }

    private static void newYardHasNoRamp() {
        for (int row = 0; row < 6; row++) {
            if (row != 2) {
                for (int column = 0; column <= 2; column++) {
                    RampJam jam = new RampJam();
                    jam.park(2, true, 2, 0);
                    CHECK.due("lorry at " + row + " " + column, jam.park(4, true, row, column), 1);
                    jam.driveOn(1, false);
                    CHECK.due("lorry along row " + row, jam.freeWay(1, true), 2);
                }
            }
        }
        for (int column = 0; column < 6; column++) {
            RampJam jam = new RampJam();
            jam.park(2, true, 2, column < 3 ? 4 : 0);
            CHECK.due("lorry down column " + column, jam.park(3, false, 0, column), 1);
            CHECK.due("lorry's way down column " + column, jam.freeWay(1, true), 3);
        }
    }

    private static void parkNumbersAndFills() {
        RampJam jam = new RampJam();
        CHECK.due("park car 0", jam.park(2, true, 2, 1), 0);
        CHECK.due("vehicles 1", jam.vehicles(), 1);
        CHECK.due("park car down", jam.park(2, false, 0, 0), 1);
        CHECK.due("park lorry across", jam.park(3, true, 0, 3), 2);
        CHECK.due("park lorry down", jam.park(3, false, 3, 5), 3);
        CHECK.due("park long lorry across", jam.park(4, true, 5, 1), 4);
        CHECK.due("park long lorry down", jam.park(4, false, 1, 4), 5);
        CHECK.due("picture", Pictures.of(jam), "1..222/1...5./.00.5./....53/....53/.44443");
        CHECK.due("vehicles 6", jam.vehicles(), 6);
        CHECK.due("moves", jam.moves(), 0);
    }

    private static void parkKeepsWithinTheYard() {
        for (int cells = 2; cells <= 4; cells++) {
            for (int place = 0; place <= 5; place++) {
                int size = cells;
                int at = place;
                RampJam across = withCarZero(0);
                RampJam down = withCarZero(0);
                Runnable parkAcross = () -> across.park(size, true, 5, at);
                Runnable parkDown = () -> down.park(size, false, at, 5);
                String call = cells + " cells at " + place;
                if (place + cells <= 6) {
                    CHECK.due("across " + call, Check.outcomeOf(parkAcross), "nothing thrown");
                    CHECK.due("down " + call, Check.outcomeOf(parkDown), "nothing thrown");
                } else {
                    CHECK.badArgument("across " + call, parkAcross);
                    CHECK.badArgument("down " + call, parkDown);
                    CHECK.due("vehicles behind it", across.vehicles() + down.vehicles(), 2);
                }
            }
        }
    }

    private static void parkRefusesArguments() {
        int[] wrongSizes = {1, 5, 0, -2, Integer.MIN_VALUE, Integer.MAX_VALUE};
        int[] wrongPlaces = {-1, 6, Integer.MIN_VALUE, Integer.MAX_VALUE};
        RampJam jam = withCarZero(0);
        for (int cells : wrongSizes) {
            CHECK.badArgument("park " + cells + " cells across", () -> jam.park(cells, true, 0, 0));
            CHECK.badArgument("park " + cells + " cells down", () -> jam.park(cells, false, 0, 5));
        }
        for (int place : wrongPlaces) {
            CHECK.badArgument("across in row " + place, () -> jam.park(2, true, place, 0));
            CHECK.badArgument("down in row " + place, () -> jam.park(2, false, place, 0));
            CHECK.badArgument("across in column " + place, () -> jam.park(2, true, 0, place));
            CHECK.badArgument("down in column " + place, () -> jam.park(2, false, 0, place));
        }
        CHECK.due("picture behind refusals", Pictures.of(jam), "....../....../00..../....../....../......");
        CHECK.due("vehicles behind refusals", jam.vehicles(), 1);
    }

    private static void firstVehicleIsCarInRowTwo() {
        RampJam jam = new RampJam();
        CHECK.badArgument("first a lorry", () -> jam.park(3, true, 2, 0));
        CHECK.badArgument("first a long lorry", () -> jam.park(4, true, 2, 0));
        CHECK.badArgument("first down", () -> jam.park(2, false, 2, 0));
        for (int row = 0; row < 6; row++) {
            int at = row;
            if (row != 2) {
                CHECK.badArgument("first in row " + row, () -> jam.park(2, true, at, 0));
            }
        }
        CHECK.due("vehicles", jam.vehicles(), 0);
        for (int column = 0; column <= 4; column++) {
            RampJam other = new RampJam();
            CHECK.due("first in column " + column, other.park(2, true, 2, column), 0);
        }
        CHECK.due("then a car across", jam.park(2, true, 2, 4), 0);
        CHECK.due("then a lorry down", jam.park(3, false, 1, 0), 1);
    }

    private static void parkRefusesFilledCells() {
        RampJam jam = withCarZero(2);
        jam.park(3, false, 3, 1);
        CHECK.badState("on the same cells", () -> jam.park(2, true, 2, 2));
        CHECK.badState("across the car's end", () -> jam.park(2, true, 2, 3));
        CHECK.badState("across the car's start", () -> jam.park(2, true, 2, 1));
        CHECK.badState("down onto the car", () -> jam.park(2, false, 1, 3));
        CHECK.badState("down from the car", () -> jam.park(4, false, 2, 2));
        CHECK.badState("onto the lorry's last cell", () -> jam.park(4, true, 5, 0));
        CHECK.badState("onto the lorry's first cell", () -> jam.park(3, false, 1, 1));
        CHECK.due("vehicles", jam.vehicles(), 2);
        CHECK.due("beside all", jam.park(3, false, 0, 1), 2);
        CHECK.due("picture", Pictures.of(jam), ".2..../.2..../.200../.1..../.1..../.1....");
    }

    private static void parkRefusesTheTenth() {
        RampJam jam = withCarZero(4);
        for (int i = 0; i < 8; i++) {
            CHECK.due("vehicle " + (i + 1), jam.park(2, true, i < 6 ? i / 3 : 3, 2 * (i % 3)), i + 1);
        }
        CHECK.badState("the tenth", () -> jam.park(2, true, 5, 0));
        CHECK.due("vehicles", jam.vehicles(), 9);
        CHECK.due("picture", Pictures.of(jam), "112233/445566/....00/7788../....../......");
    }

    private static void parkRefusesLorryOnRamp() {
        RampJam jam = withCarZero(0);
        jam.ramp(4, 3);
        CHECK.badState("lorry over the ramp", () -> jam.park(3, true, 4, 2));
        CHECK.badState("lorry that ends on the ramp", () -> jam.park(4, true, 4, 0));
        CHECK.badState("lorry that starts on the ramp", () -> jam.park(3, true, 4, 3));
        CHECK.badState("lorry down over the ramp", () -> jam.park(4, false, 2, 3));
        CHECK.due("lorry beside the ramp", jam.park(3, true, 4, 0), 1);
        CHECK.due("car on the ramp", jam.park(2, false, 4, 3), 2);
    }

    private static void parkRefusesAfterMoves() {
        RampJam jam = withCarZero(0);
        jam.drive(0, 1);
        CHECK.badState("park behind a move", () -> jam.park(2, true, 0, 0));
        jam.drive(0, -1);
        CHECK.badState("park behind a move and back", () -> jam.park(2, true, 0, 0));
        jam.restart();
        CHECK.due("park behind restart", jam.park(2, true, 0, 0), 1);
        CHECK.badState("drive that goes nowhere", () -> jam.drive(1, -1));
        CHECK.due("driveOn that goes nowhere", jam.driveOn(1, false), 0);
        CHECK.due("park behind no move", jam.park(2, true, 0, 2), 2);
    }

    private static void argumentsComeBeforeState() {
        RampJam moved = withCarZero(0);
        moved.drive(0, 1);
        CHECK.badArgument("moved, cells", () -> moved.park(1, true, 0, 0));
        CHECK.badArgument("moved, row", () -> moved.park(2, true, 6, 0));
        CHECK.badArgument("moved, beyond the yard", () -> moved.park(4, true, 0, 3));
        CHECK.badArgument("moved, onto a car and beyond the yard", () -> moved.park(3, false, 4, 1));
        CHECK.badArgument("moved, ramp", () -> moved.ramp(0, 6));
        RampJam full = withCarZero(4);
        for (int i = 0; i < 8; i++) {
            full.park(2, true, i < 6 ? i / 3 : 3, 2 * (i % 3));
        }
        CHECK.badArgument("full, cells", () -> full.park(5, true, 0, 0));
        CHECK.badArgument("full, beyond the yard", () -> full.park(2, false, 5, 0));
    }

    private static void rampRefusesArguments() {
        RampJam jam = new RampJam();
        int[] wrong = {-1, 6, Integer.MIN_VALUE, Integer.MAX_VALUE};
        for (int place : wrong) {
            CHECK.badArgument("ramp in row " + place, () -> jam.ramp(place, 0));
            CHECK.badArgument("ramp in column " + place, () -> jam.ramp(0, place));
        }
        jam.park(2, true, 2, 0);
        CHECK.due("lorry: no ramp came", jam.park(4, true, 0, 0), 1);
        for (int row = 0; row < 6; row++) {
            for (int column = 0; column < 6; column++) {
                int r = row;
                int c = column;
                RampJam other = new RampJam();
                CHECK.due("ramp " + row + " " + column, Check.outcomeOf(() -> other.ramp(r, c)), "nothing thrown");
            }
        }
    }

    private static void rampRefusesUnderLorry() {
        RampJam jam = withCarZero(0);
        jam.park(3, true, 0, 1);
        jam.park(4, false, 1, 5);
        jam.park(2, false, 4, 0);
        jam.ramp(5, 5);
        CHECK.badState("ramp under the lorry's first cell", () -> jam.ramp(0, 1));
        CHECK.badState("ramp under the lorry's last cell", () -> jam.ramp(0, 3));
        CHECK.badState("ramp under the long lorry", () -> jam.ramp(4, 5));
        CHECK.due("the ramp stayed", jam.freeWay(2, true), 0);
        CHECK.due("ramp under a car", Check.outcomeOf(() -> jam.ramp(5, 0)), "nothing thrown");
        CHECK.due("the ramp went", jam.freeWay(2, true), 1);
        CHECK.due("ramp under car 0", Check.outcomeOf(() -> jam.ramp(2, 1)), "nothing thrown");
    }

    private static void rampMoves() {
        RampJam jam = withCarZero(0);
        jam.park(3, true, 5, 0);
        jam.ramp(5, 4);
        CHECK.due("way to the first ramp", jam.freeWay(1, true), 1);
        jam.ramp(5, 3);
        CHECK.due("way to the second ramp", jam.freeWay(1, true), 0);
        jam.ramp(0, 0);
        CHECK.due("way without the ramp", jam.freeWay(1, true), 3);
        jam.ramp(0, 0);
        CHECK.due("there is one ramp", jam.freeWay(1, true), 3);
    }

    private static void rampRefusesAfterMoves() {
        RampJam jam = withCarZero(0);
        jam.park(3, true, 5, 0);
        jam.drive(0, 1);
        CHECK.badState("ramp behind a move", () -> jam.ramp(5, 5));
        jam.drive(0, -1);
        CHECK.badState("ramp behind a move and back", () -> jam.ramp(5, 5));
        CHECK.due("no ramp came", jam.freeWay(1, true), 3);
        jam.restart();
        jam.ramp(5, 5);
        CHECK.due("ramp behind restart", jam.freeWay(1, true), 2);
    }

    private static RampJam withCarZero(int column) {
        RampJam jam = new RampJam();
        jam.park(2, true, 2, column);
        return jam;
    }
}
