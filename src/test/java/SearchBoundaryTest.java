/**
 * Sentences of the document that name a boundary case, each with a test of its own that quotes it:
 * "Terms" of positions, and promises 16 (positions) to 20 (canReach).
 */
public final class SearchBoundaryTest {
    private static final Check CHECK = new Check();
    /** So many positions SlowJam finds, to show what the document's bound cuts off. */
    private static final int MANY = 2000;
    private static final int[] OUTSIDE = {-1, 6, -2, 7, 8, Integer.MIN_VALUE, Integer.MAX_VALUE};
    private static final String ALONE = "....../....../00..../....../....../......";
    private static final String SOLVED = "....../....../....00/....../....../......";
    private static final String SHUT = "....../....../00.11./....../....../......";
    private static final String NO_ROOM = "....../....../001111/....../....../......";
    private static final String BEHIND_ONE = "....../....../00..1./....1./....../......";
    private static final String NINE = "112233/445566/00..../7788../....../......";
    private static final String OF_799 = "....../3333../00.2../44.2../....1./555.1.";
    private static final String OF_800 = "3...../3...22/3.00../.1111./....../44....";
    private static final String OF_801 = "....../.33.../..00.1/.2...1/.2...1/444...";
    private static final String SOLVED_AS_800TH = "....../...35./00.352/4..352/4....2/4.111.";
    private static final String SOLVED_AS_801ST = ".55.../..1..3/001.23/....23/....2./.4444.";
    private static final String EIGHTEEN_MOVES = "..13../..13../0015../22.5.4/7..5.4/7.66.4";

    public static void main(String[] args) {
        lookingBeginsWithNow();
        foundOnesFollowInTheirOrder();
        vehiclesFollowByRisingNumbers();
        backComesBeforeForward();
        backByOneComesBeforeBackByMore();
        forwardByOneComesBeforeForwardByMore();
        nothingIsFoundAgain();
        noMoreThanEightHundred();
        lookingEndsWithTheEightHundredth();
        lookingEndsBeforeTheNext();
        looksDriveNothing();
        lorriesKeepOffTheRampInLooks();
        carsCrossTheRampInLooks();
        positionOfNowIsCounted();
        fewestIsNoneWhenSolved();
        fewestIsMinusOneWithoutWay();
        fewestCountsMovesNotCells();
        hintHoldsVehicleAndCells();
        hintIsMinusOneWhenSolved();
        hintIsMinusOneWithoutWay();
        solveMakesTheMovesOfTheWay();
        solveMakesLongWays();
        solveDoesNothingWhenSolved();
        solveDoesNothingWithoutWay();
        canReachWhereItIs();
        canReachTellsTheColumnAcross();
        canReachTellsTheRowDown();
        canReachNoPlaceBeyondTheYard();
        canReachAmongTheFoundOnly();
        canReachRefusesVehicles();
        canReachRefusesPlaces();
        refusedCanReachChangesNothing();
        CHECK.end();
    }

    private static void tell(String when, RampJam jam, int moves, int driven) {
        CHECK.due(when + ": moves", jam.moves(), moves);
        CHECK.due(when + ": driven", jam.driven(), driven);
    }

    /** "Looking for positions begins with that of now" */
    private static void lookingBeginsWithNow() {
        RampJam jam = Pictures.parked(BEHIND_ONE);
        CHECK.due("parked", jam.fewestMoves(), 2);
        jam.drive(1, -2);
        CHECK.due("driven", jam.fewestMoves(), 1);
        jam.driveOn(0, true);
        CHECK.due("driven on", jam.fewestMoves(), 0);
        jam.restart();
        CHECK.due("restarted", jam.fewestMoves(), 2);
        CHECK.due("hint back", jam.hint(), 12);
        jam.park(2, false, 0, 4);
        CHECK.due("the way back shut by another", jam.hint(), 15);
        jam.park(4, false, 2, 5);
        CHECK.due("the way out shut by another", jam.fewestMoves(), -1);
        RampJam ramp = Pictures.parked("....../.....1/00...1/.....1/....../......");
        CHECK.due("without ramp", ramp.fewestMoves(), 2);
        ramp.ramp(5, 5);
        CHECK.due("with a ramp", ramp.fewestMoves(), -1);
        ramp.ramp(5, 4);
        CHECK.due("with the ramp elsewhere", ramp.fewestMoves(), 2);
    }

    /** "from each position that was found, in the order in which they were found" */
    private static void foundOnesFollowInTheirOrder() {
        RampJam up = Pictures.parked("....../....11/00..3./....3./....22/......");
        CHECK.due("the upper car was found first", up.hint(), 12);
        CHECK.due("three moves", up.solve(), 3);
        CHECK.due("out by the upper way", Pictures.of(up), "....3./..113./....00/....../....22/......");
        RampJam down = Pictures.parked("....../....22/00..3./....3./....11/......");
        CHECK.due("the lower car was found first", down.hint(), 12);
        CHECK.due("three moves", down.solve(), 3);
        CHECK.due("out by the lower way", Pictures.of(down), "....../....22/....00/....3./..113./......");
    }

    /** "by each vehicle, by rising numbers" */
    private static void vehiclesFollowByRisingNumbers() {
        RampJam left = Pictures.parked("....../...1.2/00.1.2/....../....../......");
        CHECK.due("the left one is 1", left.hint(), 13);
        RampJam right = Pictures.parked("....../...2.1/00.2.1/....../....../......");
        CHECK.due("the right one is 1", right.hint(), 13);
        CHECK.due("solve", right.solve(), 3);
        CHECK.due("both went back", Pictures.of(right), "...2.1/...2.1/....00/....../....../......");
    }

    /** "first back by 1 cell, by 2 and so on, as far as it goes, then forward" */
    private static void backComesBeforeForward() {
        RampJam jam = Pictures.parked(BEHIND_ONE);
        CHECK.due("back by 2, though forward by 1 would do", jam.hint(), 12);
        jam.solve();
        CHECK.due("picture", Pictures.of(jam), "....1./....1./....00/....../....../......");
    }

    /** "first back by 1 cell, by 2 and so on" */
    private static void backByOneComesBeforeBackByMore() {
        RampJam jam = Pictures.parked("....../.....1/00...1/.....1/....../....22");
        CHECK.due("back by 1, though it could go by 4", jam.hint(), 23);
        CHECK.due("solve", jam.solve(), 3);
        CHECK.due("picture", Pictures.of(jam), "....../....../....00/.....1/.....1/...221");
        CHECK.due("driven", jam.driven(), 1 + 2 + 4);
    }

    /** "then forward by 1, by 2 and so on" */
    private static void forwardByOneComesBeforeForwardByMore() {
        RampJam jam = Pictures.parked("....2./....2./00..1./....1./....../......");
        CHECK.due("forward by 1, though it could go by 2", jam.hint(), 15);
        CHECK.due("solve", jam.solve(), 2);
        CHECK.due("picture", Pictures.of(jam), "....2./....2./....00/....1./....1./......");
        CHECK.due("driven", jam.driven(), 1 + 4);
    }

    /** "a position that was found before is not found again" */
    private static void nothingIsFoundAgain() {
        CHECK.due("one car", Pictures.parked(ALONE).positions(), 5);
        CHECK.due("two cars", Pictures.parked("11..../....../..00../....../....../......").positions(), 25);
        CHECK.due("with a lorry", Pictures.parked("11..../222.../..00../....../....../......").positions(), 100);
        CHECK.due("one free cell", Pictures.parked("....../....../00.111/....../....../......").positions(), 3);
        CHECK.due("two free cells", Pictures.parked("....../....../00..11/....../....../......").positions(), 6);
    }

    /** "No more than 800 positions are found" */
    private static void noMoreThanEightHundred() {
        CHECK.due("799 in all", Pictures.slowlyParked(OF_799, MANY).positions(), 799);
        CHECK.due("799", Pictures.parked(OF_799).positions(), 799);
        CHECK.due("800 in all", Pictures.slowlyParked(OF_800, MANY).positions(), 800);
        CHECK.due("800", Pictures.parked(OF_800).positions(), 800);
        CHECK.due("801 in all", Pictures.slowlyParked(OF_801, MANY).positions(), 801);
        CHECK.due("800 of 801", Pictures.parked(OF_801).positions(), 800);
        CHECK.due("800 of many", Pictures.parked("1122../3344../5500../6677../88..../......").positions(), 800);
    }

    /** "No more than 800 positions are found; looking ends there.": the 800th still counts. */
    private static void lookingEndsWithTheEightHundredth() {
        CHECK.due("the 800th in the order", Pictures.slowlyParked(SOLVED_AS_800TH, MANY).firstSolvedIndex(), 799);
        RampJam jam = Pictures.parked(SOLVED_AS_800TH);
        CHECK.due("positions", jam.positions(), 800);
        CHECK.due("fewestMoves", jam.fewestMoves(), 7);
        CHECK.due("hint", jam.hint(), Pictures.slowlyParked(SOLVED_AS_800TH, MANY).hint());
        CHECK.due("canReach", jam.canReach(0, 4), true);
        CHECK.due("solve", jam.solve(), 7);
        CHECK.due("isSolved", jam.isSolved(), true);
    }

    /** "looking ends there": the 801st is not found, though there is a way. */
    private static void lookingEndsBeforeTheNext() {
        CHECK.due("the 801st in the order", Pictures.slowlyParked(SOLVED_AS_801ST, MANY).firstSolvedIndex(), 800);
        CHECK.due("a way in truth", Pictures.slowlyParked(SOLVED_AS_801ST, MANY).fewestMoves() > 0, true);
        RampJam jam = Pictures.parked(SOLVED_AS_801ST);
        CHECK.due("positions", jam.positions(), 800);
        CHECK.due("fewestMoves", jam.fewestMoves(), -1);
        CHECK.due("hint", jam.hint(), -1);
        CHECK.due("canReach", jam.canReach(0, 4), false);
        CHECK.due("solve", jam.solve(), -1);
        CHECK.due("picture", Pictures.of(jam), SOLVED_AS_801ST);
        tell("solve without a found way", jam, 0, 0);
    }

    /** "positions that would come about by driving, without driving anything" */
    private static void looksDriveNothing() {
        RampJam jam = Pictures.parked(BEHIND_ONE);
        jam.drive(0, 1);
        CHECK.due("positions", jam.positions(), 21);
        CHECK.due("fewestMoves", jam.fewestMoves(), 2);
        CHECK.due("hint", jam.hint(), 12);
        CHECK.due("canReach", jam.canReach(0, 4), true);
        CHECK.due("picture", Pictures.of(jam), "....../....../.00.1./....1./....../......");
        tell("looked", jam, 1, 1);
        RampJam parked = Pictures.parked(BEHIND_ONE);
        parked.positions();
        CHECK.due("looks are no moves", parked.park(2, true, 5, 0), 2);
    }

    /** "a lorry, which fills 3 or 4 cells, must not fill it at any time" */
    private static void lorriesKeepOffTheRampInLooks() {
        RampJam lorry = Pictures.parked("....../....../..00../....../....../111...");
        CHECK.due("lorry without ramp", lorry.positions(), 20);
        lorry.ramp(5, 4);
        CHECK.due("lorry with ramp", lorry.positions(), 10);
        CHECK.due("lorry to the place before it", lorry.canReach(1, 1), true);
        CHECK.due("lorry onto it", lorry.canReach(1, 2), false);
        lorry.ramp(5, 3);
        CHECK.due("lorry right behind the ramp", lorry.positions(), 5);
        RampJam longOne = Pictures.parked("....1./....1./00..1./....1./....../......");
        longOne.ramp(4, 4);
        CHECK.due("long lorry shut in", longOne.canReach(1, 1), false);
        longOne.ramp(5, 4);
        CHECK.due("long lorry by 1", longOne.canReach(1, 1), true);
        CHECK.due("long lorry by 2", longOne.canReach(1, 2), false);
    }

    /** "Cars drive over it and stand on it" */
    private static void carsCrossTheRampInLooks() {
        RampJam jam = Pictures.parked(BEHIND_ONE);
        for (int row = 0; row < 6; row++) {
            jam.ramp(row, 4);
            CHECK.due("ramp in row " + row + ": positions", jam.positions(), 21);
            CHECK.due("ramp in row " + row + ": hint", jam.hint(), 12);
        }
        jam.ramp(2, 2);
        CHECK.due("ramp before the car: fewestMoves", jam.fewestMoves(), 2);
    }

    /** "How many positions are found, that of now too." */
    private static void positionOfNowIsCounted() {
        CHECK.due("without vehicles", new RampJam().positions(), 1);
        CHECK.due("no room", Pictures.parked(NO_ROOM).positions(), 1);
        CHECK.due("solved", Pictures.parked(SOLVED).positions(), 5);
    }

    /** "The fewest moves behind which the jam would be solved: 0 if it is" */
    private static void fewestIsNoneWhenSolved() {
        RampJam jam = Pictures.parked(SOLVED);
        CHECK.due("parked there", jam.fewestMoves(), 0);
        jam.drive(0, -1);
        CHECK.due("driven away", jam.fewestMoves(), 1);
        jam.drive(0, 1);
        CHECK.due("driven there", jam.fewestMoves(), 0);
        CHECK.due("with others", Pictures.parked("..1.../..1.../221.00/..1.../....../......").fewestMoves(), 0);
    }

    /** "or -1 if no such position is found" */
    private static void fewestIsMinusOneWithoutWay() {
        CHECK.due("without vehicles", new RampJam().fewestMoves(), -1);
        CHECK.due("a car along the row", Pictures.parked(SHUT).fewestMoves(), -1);
        CHECK.due("no room", Pictures.parked(NO_ROOM).fewestMoves(), -1);
        CHECK.due("a long lorry down", Pictures.parked("..1.../..1.../001.../..1.../....../......").fewestMoves(), -1);
    }

    /** "Each drive is one move, however many cells it goes." */
    private static void fewestCountsMovesNotCells() {
        for (int column = 0; column <= 3; column++) {
            RampJam jam = new RampJam();
            jam.park(2, true, 2, column);
            CHECK.due("from the column " + column, jam.fewestMoves(), 1);
        }
        CHECK.due("18 moves", Pictures.parked(EIGHTEEN_MOVES).fewestMoves(), 18);
    }

    /** "Returns 10 times the vehicle, and the cells (from -4 to 4) and 4, together" */
    private static void hintHoldsVehicleAndCells() {
        hintIs(10, "vehicle 1 back by 4", "..2.../..2.../002.../....../.3331./....1.");
        hintIs(21, "vehicle 2 back by 3", "...1../...1../00.1../...222/....../......");
        hintIs(12, "vehicle 1 back by 2", "....../....../.001../...1../....../......");
        hintIs(13, "vehicle 1 back by 1", "....../...1../.001../....../....../......");
        hintIs(15, "vehicle 1 forward by 1", "....../....../.001../...1../...1../......");
        hintIs(5, "car 0 forward by 1", "....../....../...00./....../....../......");
        hintIs(6, "car 0 forward by 2", "....../....../..00../....../....../......");
        hintIs(7, "car 0 forward by 3", "....../....../.00.../....../....../......");
        hintIs(8, "car 0 forward by 4", ALONE);
        hintIs(80, "vehicle 8 back by 4", "24455./2..7../2007../66.7../111338/.....8");
        hintIs(83, "vehicle 8 back by 1", "5..1../5..18./5.008./666344/.2.3../.27777");
        hintIs(87, "vehicle 8 forward by 3", "5.43.8/5.43.8/5.00.8/51111./267.../267...");
    }

    private static void hintIs(int hint, String name, String picture) {
        RampJam jam = Pictures.parked(picture);
        CHECK.due(name, jam.hint(), hint);
        CHECK.due(name + ", SlowJam", Pictures.slowlyParked(picture, 800).hint(), hint);
        int left = jam.fewestMoves();
        jam.drive(hint / 10, hint % 10 - 4);
        CHECK.due(name + ", driven", jam.fewestMoves(), left - 1);
    }

    /** "-1 if the jam is solved already" */
    private static void hintIsMinusOneWhenSolved() {
        RampJam jam = Pictures.parked(SOLVED);
        CHECK.due("parked there", jam.hint(), -1);
        jam.drive(0, -2);
        CHECK.due("driven away", jam.hint(), 6);
        jam.drive(0, 2);
        CHECK.due("driven there", jam.hint(), -1);
    }

    /** "or no such position is found" */
    private static void hintIsMinusOneWithoutWay() {
        CHECK.due("without vehicles", new RampJam().hint(), -1);
        CHECK.due("a car along the row", Pictures.parked(SHUT).hint(), -1);
        CHECK.due("no room", Pictures.parked(NO_ROOM).hint(), -1);
    }

    /** "makes the moves of that way, one after the other; tells how many" */
    private static void solveMakesTheMovesOfTheWay() {
        RampJam jam = Pictures.parked("..2.../..2.../002.../....../.3331./....1.");
        CHECK.due("solve", jam.solve(), 4);
        CHECK.due("picture", Pictures.of(jam), "....1./....1./....00/..2.../..2333/..2...");
        tell("solved", jam, 4, 4 + 2 + 3 + 4);
        CHECK.due("isSolved", jam.isSolved(), true);
        CHECK.due("driven away", jam.driveOn(0, false), 4);
        CHECK.due("solve once more", jam.solve(), 1);
        tell("solved once more", jam, 6, 13 + 4 + 4);
    }

    private static void solveMakesLongWays() {
        RampJam jam = Pictures.parked(EIGHTEEN_MOVES);
        SlowJam slow = Pictures.slowlyParked(EIGHTEEN_MOVES, 800);
        CHECK.due("solve", jam.solve(), 18);
        CHECK.due("solve, SlowJam", slow.solve(), 18);
        tell("solved", jam, 18, slow.driven());
        for (int vehicle = 0; vehicle < 8; vehicle++) {
            CHECK.due("row of " + vehicle, jam.rowOf(vehicle), slow.rowOf(vehicle));
            CHECK.due("column of " + vehicle, jam.columnOf(vehicle), slow.columnOf(vehicle));
        }
        jam.restart();
        CHECK.due("restarted", Pictures.of(jam), EIGHTEEN_MOVES);
    }

    /** "0 if it is solved already" */
    private static void solveDoesNothingWhenSolved() {
        RampJam jam = Pictures.parked(SOLVED);
        CHECK.due("parked there", jam.solve(), 0);
        CHECK.due("picture", Pictures.of(jam), SOLVED);
        tell("parked there", jam, 0, 0);
        jam.drive(0, -3);
        jam.drive(0, 3);
        CHECK.due("driven there", jam.solve(), 0);
        tell("driven there", jam, 2, 6);
    }

    /** "or -1 if there is no such way (then nothing is done)" */
    private static void solveDoesNothingWithoutWay() {
        CHECK.due("without vehicles", new RampJam().solve(), -1);
        RampJam jam = Pictures.parked(SHUT);
        jam.drive(0, 1);
        String before = Pictures.whole(jam);
        CHECK.due("a car along the row", jam.solve(), -1);
        CHECK.due("nothing is done", Pictures.whole(jam), before);
        tell("nothing is done", jam, 1, 1);
        RampJam unmoved = Pictures.parked(NO_ROOM);
        CHECK.due("no room", unmoved.solve(), -1);
        CHECK.due("park behind it", unmoved.park(2, true, 0, 0), 2);
    }

    /** "among the positions that are found": that of now is one of them. */
    private static void canReachWhereItIs() {
        RampJam jam = Pictures.parked(NO_ROOM);
        for (int place = 0; place <= 5; place++) {
            CHECK.due("shut in car to " + place, jam.canReach(0, place), place == 0);
            CHECK.due("shut in lorry to " + place, jam.canReach(1, place), place == 2);
        }
    }

    /** "the column of its place if it stands along a row" */
    private static void canReachTellsTheColumnAcross() {
        RampJam jam = Pictures.parked("1....2/1....2/100..2/1....2/.3333./......");
        for (int place = 0; place <= 5; place++) {
            CHECK.due("car to " + place, jam.canReach(0, place), place >= 1 && place <= 3);
            CHECK.due("long lorry to " + place, jam.canReach(3, place), place <= 2);
        }
    }

    /** "otherwise the row" */
    private static void canReachTellsTheRowDown() {
        RampJam jam = Pictures.parked("....11/....../00..../....2./....2./......");
        for (int place = 0; place <= 5; place++) {
            CHECK.due("car down to " + place, jam.canReach(2, place), place <= 4);
        }
        RampJam under = Pictures.parked("....../222233/00..../.....1/.....1/......");
        for (int place = 0; place <= 5; place++) {
            CHECK.due("car under others to " + place, under.canReach(1, place), place >= 2 && place <= 4);
        }
    }

    /** "0 to 5", though no vehicle's place can be the last one. */
    private static void canReachNoPlaceBeyondTheYard() {
        for (int size = 2; size <= 4; size++) {
            RampJam jam = Pictures.parked(ALONE);
            jam.park(size, true, 5, 0);
            jam.park(size, false, 0, 4);
            for (int place = 0; place <= 5; place++) {
                CHECK.due(size + " across to " + place, jam.canReach(1, place), place + size <= 6);
                CHECK.due(size + " down to " + place, jam.canReach(2, place), place + size <= 6);
            }
        }
    }

    /** "among the positions that are found" */
    private static void canReachAmongTheFoundOnly() {
        RampJam jam = Pictures.parked(SOLVED_AS_801ST);
        SlowJam slow = Pictures.slowlyParked(SOLVED_AS_801ST, 800);
        SlowJam far = Pictures.slowlyParked(SOLVED_AS_801ST, MANY);
        CHECK.due("in truth", far.canReach(0, 4), true);
        CHECK.due("among the found", jam.canReach(0, 4), false);
        for (int vehicle = 0; vehicle < jam.vehicles(); vehicle++) {
            for (int place = 0; place <= 5; place++) {
                CHECK.due(vehicle + " to " + place, jam.canReach(vehicle, place), slow.canReach(vehicle, place));
            }
        }
    }

    /** "if there is no such vehicle"; it is told before a place out of range. */
    private static void canReachRefusesVehicles() {
        for (RampJam jam : new RampJam[] {new RampJam(), Pictures.parked(ALONE), Pictures.parked(NINE)}) {
            int count = jam.vehicles();
            for (int vehicle : new int[] {-1, count, count + 1, -2, Integer.MIN_VALUE, Integer.MAX_VALUE}) {
                for (int place : new int[] {0, 5, -1, 6}) {
                    CHECK.badIndex(count + " vehicles: " + vehicle + " to " + place, () -> jam.canReach(vehicle, place));
                }
            }
        }
        CHECK.due("the last of nine", Pictures.parked(NINE).canReach(8, 2), true);
    }

    /** "if place is out of range" */
    private static void canReachRefusesPlaces() {
        RampJam jam = Pictures.parked(NINE);
        for (int place : OUTSIDE) {
            for (int vehicle = 0; vehicle < 9; vehicle++) {
                int number = vehicle;
                CHECK.badArgument(vehicle + " to " + place, () -> jam.canReach(number, place));
            }
        }
        CHECK.due("to 0", jam.canReach(0, 0), true);
        CHECK.due("to 5", jam.canReach(0, 5), false);
    }

    private static void refusedCanReachChangesNothing() {
        RampJam jam = Pictures.parked(BEHIND_ONE);
        jam.drive(0, 1);
        String before = Pictures.whole(jam);
        CHECK.badIndex("no such vehicle", () -> jam.canReach(2, 0));
        CHECK.badArgument("no such place", () -> jam.canReach(1, 6));
        CHECK.due("behind refusals", Pictures.whole(jam), before);
    }
}
