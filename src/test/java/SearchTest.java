/** Promises 16 (positions), 17 (fewestMoves), 18 (hint), 19 (solve) and 20 (canReach). */
public final class SearchTest {
    private static final Check CHECK = new Check();

    public static void main(String[] args) {
        positionsAreCounted();
        positionsEndAtEightHundred();
        positionsGoOnBeyondSolved();
        fewestMovesAreCounted();
        rampShutsTheWay();
        backComesBeforeForward();
        fewerCellsComeFirst();
        lesserNumbersComeFirst();
        firstSolvedAsTheEightHundredth();
        firstSolvedBeyondTheEightHundred();
        hintWithoutWay();
        hintsLeadOut();
        solveMakesTheMoves();
        solveDoesNothing();
        solveAddsToEarlierMoves();
        canReachAlongTheAxis();
        canReachStopsAtOthers();
        canReachRefuses();
        lookingDrivesNothing();
        lookingStartsFromNow();
        CHECK.end();
    }

    private static RampJam withCarZero(int column) {
        RampJam jam = new RampJam();
        jam.park(2, true, 2, column);
        return jam;
    }

    private static void positionsAreCounted() {
        CHECK.due("without vehicles", new RampJam().positions(), 1);
        for (int column = 0; column <= 4; column++) {
            CHECK.due("alone from column " + column, withCarZero(column).positions(), 5);
        }
        RampJam jam = withCarZero(1);
        jam.park(2, true, 0, 3);
        CHECK.due("with a car", jam.positions(), 25);
        jam.park(3, true, 1, 2);
        CHECK.due("with a lorry", jam.positions(), 100);
        jam.park(4, true, 5, 0);
        CHECK.due("with a long lorry", jam.positions(), 300);
        jam.ramp(5, 5);
        CHECK.due("with a ramp where it can go", jam.positions(), 200);
        jam.ramp(0, 5);
        CHECK.due("with a ramp where cars go", jam.positions(), 300);
        RampJam shut = withCarZero(0);
        shut.park(4, true, 2, 2);
        CHECK.due("no room at all", shut.positions(), 1);
        RampJam one = withCarZero(0);
        one.park(3, true, 2, 2);
        CHECK.due("one free cell", one.positions(), 3);
    }

    private static void positionsEndAtEightHundred() {
        RampJam jam = withCarZero(0);
        jam.park(2, true, 0, 0);
        jam.park(3, true, 1, 0);
        jam.park(3, true, 3, 0);
        jam.park(3, true, 4, 0);
        jam.ramp(4, 5);
        CHECK.due("1200 positions", jam.positions(), 800);
        jam.ramp(4, 4);
        CHECK.due("just 800 positions", jam.positions(), 800);
        jam.ramp(4, 3);
        CHECK.due("400 positions", jam.positions(), 400);
        jam.ramp(5, 0);
        CHECK.due("1600 positions", jam.positions(), 800);
        jam.restart();
        CHECK.due("1600 positions again", jam.positions(), 800);
    }

    private static void positionsGoOnBeyondSolved() {
        RampJam jam = withCarZero(4);
        jam.park(2, false, 0, 0);
        CHECK.due("from the solved one", jam.positions(), 23);
    }

    private static void fewestMovesAreCounted() {
        CHECK.due("without vehicles", new RampJam().fewestMoves(), -1);
        CHECK.due("solved", withCarZero(4).fewestMoves(), 0);
        for (int column = 0; column <= 3; column++) {
            CHECK.due("alone from column " + column, withCarZero(column).fewestMoves(), 1);
        }
        RampJam jam = withCarZero(0);
        jam.park(2, false, 2, 5);
        CHECK.due("behind one car", jam.fewestMoves(), 2);
        jam.park(3, false, 0, 4);
        CHECK.due("behind a car and a lorry", jam.fewestMoves(), 3);
        jam.park(2, true, 4, 4);
        CHECK.due("the lorry must wait for a third", jam.fewestMoves(), 4);
        jam.driveOn(1, false);
        CHECK.due("one move on", jam.fewestMoves(), 3);
        RampJam shut = withCarZero(0);
        shut.park(2, true, 2, 3);
        CHECK.due("a car along the row", shut.fewestMoves(), -1);
        RampJam wall = withCarZero(0);
        wall.park(4, false, 1, 3);
        CHECK.due("a long lorry never leaves the row 2", wall.fewestMoves(), -1);
    }

    private static void rampShutsTheWay() {
        RampJam jam = withCarZero(0);
        jam.park(3, false, 1, 5);
        CHECK.due("the lorry goes down", jam.fewestMoves(), 2);
        jam.ramp(4, 5);
        CHECK.due("not over the ramp", jam.fewestMoves(), -1);
        jam.ramp(5, 5);
        CHECK.due("not onto the ramp", jam.fewestMoves(), -1);
        jam.ramp(0, 5);
        CHECK.due("the ramp is above it", jam.fewestMoves(), 2);
        RampJam car = withCarZero(0);
        car.park(2, false, 2, 5);
        car.ramp(4, 5);
        CHECK.due("a car goes over it", car.fewestMoves(), 2);
    }

    private static void backComesBeforeForward() {
        RampJam jam = withCarZero(0);
        jam.park(2, false, 2, 4);
        CHECK.due("hint: back by 2", jam.hint(), 12);
        CHECK.due("solve", jam.solve(), 2);
        CHECK.due("picture", Pictures.of(jam), "....1./....1./....00/....../....../......");
    }

    private static void fewerCellsComeFirst() {
        RampJam jam = withCarZero(0);
        jam.park(2, false, 2, 4);
        jam.park(2, false, 0, 4);
        CHECK.due("hint: forward by 1", jam.hint(), 15);
        CHECK.due("solve", jam.solve(), 2);
        CHECK.due("picture", Pictures.of(jam), "....2./....2./....00/....1./....1./......");
        CHECK.due("driven", jam.driven(), 5);
    }

    private static void lesserNumbersComeFirst() {
        RampJam jam = withCarZero(0);
        jam.park(2, false, 2, 5);
        jam.park(2, false, 1, 3);
        CHECK.due("hint: vehicle 1 first", jam.hint(), 12);
        jam.drive(1, -2);
        CHECK.due("hint: then vehicle 2", jam.hint(), 23);
        jam.drive(2, -1);
        CHECK.due("hint: then the car", jam.hint(), 8);
        jam.drive(0, 4);
        CHECK.due("no hint more", jam.hint(), -1);
        RampJam turned = withCarZero(0);
        turned.park(2, false, 1, 3);
        turned.park(2, false, 2, 5);
        CHECK.due("hint: vehicle 1, the other one", turned.hint(), 13);
    }

    private static void firstSolvedAsTheEightHundredth() {
        RampJam jam = withCarZero(0);
        jam.park(3, true, 5, 2);
        jam.park(3, false, 2, 5);
        jam.park(3, false, 1, 3);
        jam.park(3, false, 3, 0);
        jam.park(3, false, 1, 4);
        CHECK.due("the 800th: positions", jam.positions(), 800);
        CHECK.due("the 800th: fewestMoves", jam.fewestMoves(), 7);
        CHECK.due("the 800th: canReach", jam.canReach(0, 4), true);
        CHECK.due("the 800th: has a hint", jam.hint() >= 0, true);
        CHECK.due("the 800th: solve", jam.solve(), 7);
        CHECK.due("the 800th: isSolved", jam.isSolved(), true);
    }

    private static void firstSolvedBeyondTheEightHundred() {
        RampJam jam = withCarZero(0);
        jam.park(2, false, 1, 2);
        jam.park(3, false, 2, 4);
        jam.park(3, false, 1, 5);
        jam.park(4, true, 5, 1);
        jam.park(2, true, 0, 1);
        CHECK.due("the 801st: positions", jam.positions(), 800);
        CHECK.due("the 801st: fewestMoves", jam.fewestMoves(), -1);
        CHECK.due("the 801st: canReach", jam.canReach(0, 4), false);
        CHECK.due("the 801st: hint", jam.hint(), -1);
        CHECK.due("the 801st: solve", jam.solve(), -1);
        CHECK.due("the 801st: moves", jam.moves(), 0);
    }

    private static void hintWithoutWay() {
        CHECK.due("hint without vehicles", new RampJam().hint(), -1);
        CHECK.due("hint when solved", withCarZero(4).hint(), -1);
        RampJam shut = withCarZero(0);
        shut.park(2, true, 2, 4);
        CHECK.due("hint without a way", shut.hint(), -1);
        for (int column = 0; column <= 3; column++) {
            CHECK.due("hint from column " + column, withCarZero(column).hint(), 8 - column);
        }
    }

    private static void hintsLeadOut() {
        RampJam jam = withCarZero(0);
        jam.park(3, true, 5, 2);
        jam.park(3, false, 2, 5);
        jam.park(2, false, 1, 4);
        jam.park(2, true, 0, 3);
        int fewest = jam.fewestMoves();
        CHECK.due("a way out", fewest > 2, true);
        for (int left = fewest; left > 0; left--) {
            CHECK.due("left", jam.fewestMoves(), left);
            int hint = jam.hint();
            jam.drive(hint / 10, hint % 10 - 4);
        }
        CHECK.due("solved by hints", jam.isSolved(), true);
        CHECK.due("moves by hints", jam.moves(), fewest);
    }

    private static void solveMakesTheMoves() {
        RampJam jam = withCarZero(1);
        CHECK.due("solve alone", jam.solve(), 1);
        CHECK.due("solved", jam.isSolved(), true);
        CHECK.due("moves", jam.moves(), 1);
        CHECK.due("driven", jam.driven(), 3);
        CHECK.due("fewestMoves behind it", jam.fewestMoves(), 0);
        CHECK.due("solve again", jam.solve(), 0);
        CHECK.due("moves again", jam.moves(), 1);
        jam.restart();
        CHECK.due("restarted", jam.columnOf(0), 1);
        CHECK.due("moves restarted", jam.moves(), 0);
        CHECK.due("driven restarted", jam.driven(), 0);
        CHECK.due("solve once more", jam.solve(), 1);
    }

    private static void solveDoesNothing() {
        RampJam none = new RampJam();
        CHECK.due("solve without vehicles", none.solve(), -1);
        RampJam solved = withCarZero(4);
        CHECK.due("solve when solved", solved.solve(), 0);
        CHECK.due("moves when solved", solved.moves(), 0);
        CHECK.due("park when solved", solved.park(2, true, 0, 0), 1);
        RampJam shut = withCarZero(0);
        shut.park(4, false, 0, 3);
        shut.drive(0, 1);
        CHECK.due("solve without a way", shut.solve(), -1);
        CHECK.due("moves without a way", shut.moves(), 1);
        CHECK.due("driven without a way", shut.driven(), 1);
        CHECK.due("picture without a way", Pictures.of(shut), "...1../...1../.001../...1../....../......");
    }

    private static void solveAddsToEarlierMoves() {
        RampJam jam = withCarZero(0);
        jam.park(2, false, 2, 4);
        jam.drive(0, 2);
        jam.drive(0, -1);
        CHECK.due("solve behind moves", jam.solve(), 2);
        CHECK.due("all moves", jam.moves(), 4);
        CHECK.due("all driven", jam.driven(), 8);
        CHECK.badState("park behind solve", () -> jam.park(2, true, 0, 0));
        CHECK.badState("ramp behind solve", () -> jam.ramp(0, 0));
        jam.drive(0, -1);
        CHECK.due("driven away", jam.isSolved(), false);
        CHECK.due("solve once more", jam.solve(), 1);
        CHECK.due("moves once more", jam.moves(), 6);
        jam.restart();
        CHECK.due("restarted", Pictures.of(jam), "....../....../00..1./....1./....../......");
    }

    private static void canReachAlongTheAxis() {
        RampJam jam = withCarZero(2);
        jam.park(3, false, 1, 0);
        jam.park(4, true, 5, 1);
        for (int place = 0; place <= 5; place++) {
            CHECK.due("car across to " + place, jam.canReach(0, place), place <= 4);
            CHECK.due("lorry down to " + place, jam.canReach(1, place), place <= 3);
            CHECK.due("long lorry across to " + place, jam.canReach(2, place), place <= 2);
        }
    }

    private static void canReachStopsAtOthers() {
        RampJam jam = withCarZero(1);
        jam.park(4, false, 1, 4);
        for (int place = 0; place <= 5; place++) {
            CHECK.due("car to " + place, jam.canReach(0, place), place <= 2);
            CHECK.due("long lorry to " + place, jam.canReach(1, place), place <= 2);
        }
        jam.ramp(5, 4);
        CHECK.due("long lorry onto the ramp", jam.canReach(1, 2), false);
        CHECK.due("long lorry where it is", jam.canReach(1, 1), true);
        RampJam shut = withCarZero(0);
        shut.park(4, true, 2, 2);
        CHECK.due("shut in, where it is", shut.canReach(0, 0), true);
        CHECK.due("shut in, the next place", shut.canReach(0, 1), false);
        RampJam turns = withCarZero(0);
        turns.park(2, false, 2, 5);
        CHECK.due("car behind another's drive", turns.canReach(0, 4), true);
        CHECK.due("car down past the row", turns.canReach(1, 0), true);
    }

    private static void canReachRefuses() {
        RampJam jam = withCarZero(1);
        for (int vehicle : new int[] {-1, 1, 9, Integer.MIN_VALUE, Integer.MAX_VALUE}) {
            CHECK.badIndex("canReach vehicle " + vehicle, () -> jam.canReach(vehicle, 0));
            CHECK.badIndex("vehicle before place, " + vehicle, () -> jam.canReach(vehicle, 6));
        }
        for (int place : new int[] {-1, 6, 7, 8, Integer.MIN_VALUE, Integer.MAX_VALUE}) {
            CHECK.badArgument("canReach place " + place, () -> jam.canReach(0, place));
        }
        CHECK.badIndex("canReach without vehicles", () -> new RampJam().canReach(0, 0));
    }

    private static void lookingDrivesNothing() {
        RampJam jam = withCarZero(0);
        jam.park(2, false, 2, 4);
        jam.drive(0, 1);
        String before = Pictures.of(jam);
        jam.positions();
        jam.fewestMoves();
        jam.hint();
        jam.canReach(0, 4);
        CHECK.due("picture", Pictures.of(jam), before);
        CHECK.due("moves", jam.moves(), 1);
        CHECK.due("driven", jam.driven(), 1);
    }

    private static void lookingStartsFromNow() {
        RampJam jam = withCarZero(1);
        CHECK.due("hint at first", jam.hint(), 7);
        jam.park(2, false, 2, 5);
        CHECK.due("hint behind park", jam.hint(), 12);
        jam.drive(1, -2);
        CHECK.due("hint behind drive", jam.hint(), 7);
        jam.driveOn(0, false);
        CHECK.due("hint behind driveOn", jam.hint(), 8);
        jam.solve();
        CHECK.due("hint behind solve", jam.hint(), -1);
        jam.restart();
        CHECK.due("hint behind restart", jam.hint(), 12);
        CHECK.due("positions behind restart", jam.positions(), 23);
    }
}
