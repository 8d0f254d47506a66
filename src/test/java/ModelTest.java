import java.util.Random;

/** Promises 1 to 20: long runs of calls, the same on RampJam and on SlowJam, all answers compared. */
public final class ModelTest {
    private static final Check CHECK = new Check();
    private static final int RUNS = 80;
    private static final int CALLS = 512;

    private RampJam jam;
    private SlowJam slow;
    private Random random;
    private String runName;

    public static void main(String[] args) {
        for (int run = 0; run < RUNS; run++) {
            new ModelTest().play(run);
        }
        CHECK.end();
    }

    private void play(int run) {
        jam = new RampJam();
        slow = new SlowJam();
        random = new Random(run);
        runName = "run " + run;
        int calls = 0;
        int parkings = 2 + random.nextInt(run % 2 == 0 ? 60 : 14);
        park(2, true, 2, random.nextInt(5));
        calls++;
        for (int i = 0; i < parkings; i++, calls++) {
            if (random.nextInt(12) == 0) {
                ramp(random.nextInt(6), random.nextInt(6));
            } else {
                park(2 + random.nextInt(3), random.nextBoolean(), random.nextInt(6), random.nextInt(6));
            }
        }
        while (calls < CALLS) {
            call();
            calls++;
        }
        compareAll();
    }

    private void call() {
        switch (random.nextInt(26)) {
            case 0 -> park(size(), random.nextBoolean(), place(), place());
            case 1 -> ramp(place(), place());
            case 2 -> restartSometimes();
            case 3 -> same("positions()", () -> jam.positions(), () -> slow.positions());
            case 4 -> same("fewestMoves()", () -> jam.fewestMoves(), () -> slow.fewestMoves());
            case 5 -> same("hint()", () -> jam.hint(), () -> slow.hint());
            case 6 -> solveSometimes();
            case 7 -> canReach(vehicle(), place());
            case 8 -> same("inTheWay()", () -> jam.inTheWay(), () -> slow.inTheWay());
            case 9 -> same("isSolved()", () -> jam.isSolved() ? 1 : 0, () -> slow.isSolved() ? 1 : 0);
            case 10 -> same("moves()", () -> jam.moves(), () -> slow.moves());
            case 11 -> same("driven()", () -> jam.driven(), () -> slow.driven());
            case 12 -> same("vehicles()", () -> jam.vehicles(), () -> slow.vehicles());
            case 13 -> at(place(), place());
            case 14 -> rowAndColumn(vehicle());
            case 15 -> freeWay(vehicle(), random.nextBoolean());
            case 16, 17, 18 -> driveOn(vehicle(), random.nextBoolean());
            default -> drive(vehicle(), random.nextInt(20) == 0 ? random.nextInt(15) - 7 : random.nextInt(5) - 2);
        }
    }

    private int vehicle() {
        int count = slow.vehicles();
        return random.nextInt(15) == 0 ? random.nextInt(13) - 2 : random.nextInt(count == 0 ? 1 : count);
    }

    private int place() {
        return random.nextInt(30) == 0 ? random.nextInt(10) - 2 : random.nextInt(6);
    }

    private int size() {
        return random.nextInt(20) == 0 ? random.nextInt(8) - 1 : 2 + random.nextInt(3);
    }

    private void restartSometimes() {
        if (random.nextInt(4) == 0) {
            same("restart()", () -> { jam.restart(); return 0; }, () -> { slow.restart(); return 0; });
        }
    }

    private void solveSometimes() {
        if (random.nextInt(6) == 0) {
            same("solve()", () -> jam.solve(), () -> slow.solve());
            compareAll();
        }
    }

    private void park(int cells, boolean isAcross, int row, int column) {
        same("park(" + cells + ", " + isAcross + ", " + row + ", " + column + ")",
                () -> jam.park(cells, isAcross, row, column), () -> slow.park(cells, isAcross, row, column));
    }

    private void ramp(int row, int column) {
        same("ramp(" + row + ", " + column + ")",
                () -> { jam.ramp(row, column); return 0; }, () -> { slow.ramp(row, column); return 0; });
    }

    private void drive(int vehicle, int cells) {
        same("drive(" + vehicle + ", " + cells + ")",
                () -> { jam.drive(vehicle, cells); return 0; }, () -> { slow.drive(vehicle, cells); return 0; });
    }

    private void driveOn(int vehicle, boolean isForward) {
        same("driveOn(" + vehicle + ", " + isForward + ")",
                () -> jam.driveOn(vehicle, isForward), () -> slow.driveOn(vehicle, isForward));
    }

    private void freeWay(int vehicle, boolean isForward) {
        same("freeWay(" + vehicle + ", " + isForward + ")",
                () -> jam.freeWay(vehicle, isForward), () -> slow.freeWay(vehicle, isForward));
    }

    private void canReach(int vehicle, int place) {
        same("canReach(" + vehicle + ", " + place + ")",
                () -> jam.canReach(vehicle, place) ? 1 : 0, () -> slow.canReach(vehicle, place) ? 1 : 0);
    }

    private void at(int row, int column) {
        same("at(" + row + ", " + column + ")", () -> jam.at(row, column), () -> slow.at(row, column));
    }

    private void rowAndColumn(int vehicle) {
        same("rowOf(" + vehicle + ")", () -> jam.rowOf(vehicle), () -> slow.rowOf(vehicle));
        same("columnOf(" + vehicle + ")", () -> jam.columnOf(vehicle), () -> slow.columnOf(vehicle));
    }

    private void compareAll() {
        for (int row = 0; row < 6; row++) {
            for (int column = 0; column < 6; column++) {
                at(row, column);
            }
        }
        for (int vehicle = -1; vehicle <= slow.vehicles(); vehicle++) {
            rowAndColumn(vehicle);
            freeWay(vehicle, true);
            freeWay(vehicle, false);
        }
        same("moves()", () -> jam.moves(), () -> slow.moves());
        same("driven()", () -> jam.driven(), () -> slow.driven());
        same("hint()", () -> jam.hint(), () -> slow.hint());
    }

    private interface Call {
        int answer();
    }

    private void same(String call, Call ours, Call theirs) {
        CHECK.due(runName + ": " + call, told(ours), told(theirs));
    }

    private static String told(Call call) {
        try {
            return "" + call.answer();
        } catch (RuntimeException thrown) {
            return "throws." + thrown.getClass().getSimpleName();
        }
    }
}
