/** Promises 4 (drive), 5 (driveOn), 6 (restart), 11 (freeWay), 14 (moves) and 15 (driven). */
public final class DrivingTest {
    private static final Check CHECK = new Check();
    private static final String PARKED = "1..222/1...5./.00.5./....53/....53/.44443";

    public static void main(String[] args) {
        driveGoesAsAsked();
        driveGoesAsFarAsFour();
        driveRefuses();
        drivePrecedence();
        driveOnGoesAsFarAsItGoes();
        driveOnRefuses();
        rampStopsLorriesOnly();
        rampStopsOnTheWay();
        freeWayLooksOnly();
        freeWayRefuses();
        restartPutsBack();
        restartLetsParkAgain();
        CHECK.end();
    }

    private static RampJam sixVehicles() {
        RampJam jam = new RampJam();
        jam.park(2, true, 2, 1);
        jam.park(2, false, 0, 0);
        jam.park(3, true, 0, 3);
        jam.park(3, false, 3, 5);
        jam.park(4, true, 5, 1);
        jam.park(4, false, 1, 4);
        CHECK.due("six vehicles", Pictures.of(jam), PARKED);
        return jam;
    }

    private static void tell(String when, RampJam jam, int moves, int driven) {
        CHECK.due(when + ": moves", jam.moves(), moves);
        CHECK.due(when + ": driven", jam.driven(), driven);
    }

    private static void driveGoesAsAsked() {
        RampJam jam = sixVehicles();
        jam.drive(0, 1);
        CHECK.due("across forward", Pictures.of(jam), "1..222/1...5./..005./....53/....53/.44443");
        tell("across forward", jam, 1, 1);
        jam.drive(1, 4);
        CHECK.due("down forward", Pictures.of(jam), "...222/....5./..005./....53/1...53/144443");
        tell("down forward", jam, 2, 5);
        jam.drive(2, -2);
        CHECK.due("across back", Pictures.of(jam), ".222../....5./..005./....53/1...53/144443");
        tell("across back", jam, 3, 7);
        jam.drive(3, -3);
        CHECK.due("down back", Pictures.of(jam), ".222.3/....53/..0053/....5./1...5./14444.");
        tell("down back", jam, 4, 10);
        jam.drive(5, -1);
        CHECK.due("long lorry", Pictures.of(jam), ".22253/....53/..0053/....5./1...../14444.");
        tell("long lorry", jam, 5, 11);
    }

    private static void driveGoesAsFarAsFour() {
        RampJam jam = new RampJam();
        jam.park(2, true, 2, 0);
        for (int cells = 1; cells <= 4; cells++) {
            jam.drive(0, cells);
            CHECK.due("forward by " + cells, jam.columnOf(0), cells);
            jam.drive(0, -cells);
            CHECK.due("back by " + cells, jam.columnOf(0), 0);
        }
        tell("eight drives", jam, 8, 20);
    }

    private static void driveRefuses() {
        RampJam jam = sixVehicles();
        for (int vehicle : new int[] {-1, 6, 9, Integer.MIN_VALUE, Integer.MAX_VALUE}) {
            CHECK.badIndex("drive vehicle " + vehicle, () -> jam.drive(vehicle, 1));
        }
        for (int cells : new int[] {0, 5, -5, Integer.MIN_VALUE, Integer.MAX_VALUE}) {
            CHECK.badArgument("drive by " + cells, () -> jam.drive(0, cells));
        }
        CHECK.badState("against a lorry", () -> jam.drive(0, 2));
        CHECK.badState("out of the left border", () -> jam.drive(0, -2));
        CHECK.badState("out of the top", () -> jam.drive(1, -1));
        CHECK.badState("out of the bottom", () -> jam.drive(3, 1));
        CHECK.badState("out of the right border", () -> jam.drive(2, 1));
        CHECK.badState("over a vehicle to free cells", () -> jam.drive(0, 4));
        CHECK.badState("down against a lorry", () -> jam.drive(5, 1));
        CHECK.badIndex("no vehicles at all", () -> new RampJam().drive(0, 1));
        CHECK.due("refused drives", Pictures.of(jam), PARKED);
        tell("refused drives", jam, 0, 0);
    }

    private static void drivePrecedence() {
        RampJam jam = sixVehicles();
        CHECK.badIndex("vehicle before cells", () -> jam.drive(6, 0));
        CHECK.badIndex("vehicle before far cells", () -> jam.drive(-1, 5));
        CHECK.badArgument("cells before the way", () -> jam.drive(1, -5));
    }

    private static void driveOnGoesAsFarAsItGoes() {
        RampJam jam = sixVehicles();
        CHECK.due("to the lorry", jam.driveOn(0, true), 1);
        tell("to the lorry", jam, 1, 1);
        CHECK.due("no more", jam.driveOn(0, true), 0);
        tell("no more", jam, 1, 1);
        CHECK.due("to the left border", jam.driveOn(0, false), 2);
        CHECK.due("picture", Pictures.of(jam), "1..222/1...5./00..5./....53/....53/.44443");
        tell("to the left border", jam, 2, 3);
        CHECK.due("no way back", jam.driveOn(1, false), 0);
        CHECK.due("no way on", jam.driveOn(1, true), 0);
        CHECK.due("up to the lorry", jam.driveOn(5, false), 0);
        CHECK.due("to the car", jam.driveOn(2, false), 2);
        CHECK.due("up to the top", jam.driveOn(5, false), 1);
        CHECK.due("picture at the end", Pictures.of(jam), "12225./1...5./00..5./....53/.....3/.44443");
        tell("at the end", jam, 4, 6);
        RampJam alone = new RampJam();
        alone.park(2, true, 2, 0);
        CHECK.due("the whole row", alone.driveOn(0, true), 4);
        CHECK.due("solved", alone.isSolved(), true);
        tell("the whole row", alone, 1, 4);
    }

    private static void driveOnRefuses() {
        RampJam jam = sixVehicles();
        for (int vehicle : new int[] {-1, 6, 9, Integer.MIN_VALUE, Integer.MAX_VALUE}) {
            CHECK.badIndex("driveOn " + vehicle, () -> jam.driveOn(vehicle, true));
            CHECK.badIndex("driveOn back " + vehicle, () -> jam.driveOn(vehicle, false));
        }
        CHECK.badIndex("driveOn without vehicles", () -> new RampJam().driveOn(0, true));
        tell("refused", jam, 0, 0);
    }

    private static void rampStopsLorriesOnly() {
        RampJam jam = new RampJam();
        jam.park(2, true, 2, 0);
        jam.park(3, true, 0, 0);
        jam.park(2, false, 3, 4);
        jam.park(4, false, 2, 5);
        jam.ramp(0, 5);
        CHECK.due("lorry up to the ramp", jam.driveOn(1, true), 2);
        CHECK.badState("lorry onto the ramp", () -> jam.drive(1, 1));
        CHECK.due("long lorry short of the ramp", jam.driveOn(3, false), 1);
        CHECK.due("picture", Pictures.of(jam), "..111./.....3/00...3/....23/....23/......");
        RampJam cars = new RampJam();
        cars.ramp(2, 3);
        cars.park(2, true, 2, 0);
        CHECK.due("car's way over the ramp", cars.freeWay(0, true), 4);
        cars.drive(0, 2);
        CHECK.due("car on the ramp", cars.at(2, 3), 0);
        cars.drive(0, 2);
        CHECK.due("car beyond the ramp", cars.isSolved(), true);
        CHECK.due("car back over it", cars.driveOn(0, false), 4);
    }

    private static void rampStopsOnTheWay() {
        RampJam jam = new RampJam();
        jam.park(2, true, 2, 0);
        jam.park(3, false, 0, 2);
        jam.ramp(3, 2);
        CHECK.badState("lorry over the ramp", () -> jam.drive(1, 3));
        CHECK.due("lorry's way on", jam.freeWay(1, true), 0);
        jam.ramp(4, 2);
        CHECK.due("lorry's way to the ramp", jam.freeWay(1, true), 1);
        jam.ramp(3, 3);
        CHECK.due("lorry's way beside the ramp", jam.freeWay(1, true), 3);
    }

    private static void freeWayLooksOnly() {
        RampJam jam = sixVehicles();
        int[] forward = {1, 4, 0, 0, 0, 0};
        int[] back = {1, 0, 2, 2, 1, 0};
        for (int vehicle = 0; vehicle < 6; vehicle++) {
            CHECK.due("way on of " + vehicle, jam.freeWay(vehicle, true), forward[vehicle]);
            CHECK.due("way back of " + vehicle, jam.freeWay(vehicle, false), back[vehicle]);
        }
        CHECK.due("only looked", Pictures.of(jam), PARKED);
        tell("only looked", jam, 0, 0);
        jam.drive(2, -1);
        CHECK.due("way back behind a drive", jam.freeWay(2, false), 1);
        CHECK.due("way on behind a drive", jam.freeWay(2, true), 1);
    }

    private static void freeWayRefuses() {
        RampJam jam = sixVehicles();
        for (int vehicle : new int[] {-1, 6, 9, Integer.MIN_VALUE, Integer.MAX_VALUE}) {
            CHECK.badIndex("freeWay " + vehicle, () -> jam.freeWay(vehicle, true));
        }
        CHECK.badIndex("freeWay without vehicles", () -> new RampJam().freeWay(0, false));
    }

    private static void restartPutsBack() {
        RampJam jam = sixVehicles();
        jam.ramp(0, 0);
        jam.driveOn(0, true);
        jam.driveOn(1, true);
        jam.driveOn(2, false);
        tell("driven", jam, 3, 7);
        jam.restart();
        CHECK.due("restarted", Pictures.of(jam), PARKED);
        tell("restarted", jam, 0, 0);
        jam.driveOn(1, true);
        CHECK.due("the ramp stays", jam.freeWay(2, false), 2);
        jam.drive(0, 1);
        tell("counted from 0", jam, 2, 5);
        jam.restart();
        jam.restart();
        CHECK.due("restarted twice", Pictures.of(jam), PARKED);
        CHECK.due("vehicles", jam.vehicles(), 6);
    }

    private static void restartLetsParkAgain() {
        RampJam jam = sixVehicles();
        jam.drive(0, 1);
        jam.restart();
        CHECK.due("park again", jam.park(2, true, 4, 1), 6);
        jam.drive(6, 1);
        jam.drive(0, 1);
        jam.restart();
        CHECK.due("both where they were parked", Pictures.of(jam), "1..222/1...5./.00.5./....53/.66.53/.44443");
        jam.ramp(3, 0);
        CHECK.due("car over the new ramp", jam.freeWay(1, true), 4);
    }
}
