/** What README.md says under "Use"; whoever changes the one changes the other. */
public final class ReadmeTest {
    private static final Check CHECK = new Check();

    public static void main(String[] args) {
        theExampleAnswersAsItSays();
        onlyBeforeTheFirstMoveIsTheYardFilled();
        askingDrivesNothing();
        theKindListedFirstIsThrown();
        CHECK.end();
    }

    private static void theExampleAnswersAsItSays() {
        RampJam jam = new RampJam();
        CHECK.due("park(2, true, 2, 0)", jam.park(2, true, 2, 0), 0);
        CHECK.due("park(3, false, 1, 3)", jam.park(3, false, 1, 3), 1);
        jam.ramp(5, 3);
        CHECK.due("inTheWay()", jam.inTheWay(), 1);
        CHECK.due("freeWay(1, true)", jam.freeWay(1, true), 1);
        CHECK.due("fewestMoves() with the ramp below", jam.fewestMoves(), -1);
        jam.ramp(0, 3);
        CHECK.due("fewestMoves() with the ramp above", jam.fewestMoves(), 2);
        CHECK.due("hint()", jam.hint(), 16);
        jam.drive(1, 2);
        CHECK.due("the lorry on the rows 3 to 5", Pictures.of(jam), "....../....../00..../...1../...1../...1..");
        CHECK.due("driveOn(0, true)", jam.driveOn(0, true), 4);
        CHECK.due("isSolved()", jam.isSolved(), true);
        CHECK.due("moves()", jam.moves(), 2);
        CHECK.due("driven()", jam.driven(), 6);
        jam.restart();
        CHECK.due("all stand as parked", Pictures.of(jam), "....../...1../00.1../...1../....../......");
        CHECK.due("solve()", jam.solve(), 2);
        CHECK.due("isSolved() behind solve()", jam.isSolved(), true);
    }

    private static void onlyBeforeTheFirstMoveIsTheYardFilled() {
        RampJam jam = exampleYard();
        jam.drive(1, 1);
        CHECK.badState("park behind a move", () -> jam.park(2, true, 5, 0));
        CHECK.badState("ramp behind a move", () -> jam.ramp(5, 0));
        jam.restart();
        CHECK.due("park behind a restart", jam.park(2, true, 5, 0), 2);
        jam.ramp(5, 0);
        CHECK.due("the ramp under a car", jam.at(5, 0), 2);
    }

    private static void askingDrivesNothing() {
        RampJam jam = exampleYard();
        String before = Pictures.of(jam);
        jam.positions();
        jam.fewestMoves();
        jam.hint();
        jam.canReach(0, 4);
        CHECK.due("the yard", Pictures.of(jam), before);
        CHECK.due("moves()", jam.moves(), 0);
        CHECK.due("driven()", jam.driven(), 0);
    }

    private static void theKindListedFirstIsThrown() {
        RampJam jam = exampleYard();
        jam.drive(1, 1);
        String before = Pictures.whole(jam);
        CHECK.badIndex("drive of no vehicle out of range", () -> jam.drive(2, 5));
        CHECK.badIndex("canReach of no vehicle out of range", () -> jam.canReach(2, 6));
        CHECK.badArgument("drive out of range and too far", () -> jam.drive(0, 5));
        CHECK.badArgument("park out of range behind a move", () -> jam.park(5, true, 0, 0));
        CHECK.badArgument("park beyond the yard behind a move", () -> jam.park(2, true, 0, 5));
        CHECK.badArgument("ramp out of range behind a move", () -> jam.ramp(6, 0));
        CHECK.badArgument("a first vehicle down a column", () -> new RampJam().park(2, false, 2, 0));
        CHECK.due("what threw changed nothing", Pictures.whole(jam), before);
    }

    private static RampJam exampleYard() {
        return Pictures.parked("....../...1../00.1../...1../....../......");
    }
}
