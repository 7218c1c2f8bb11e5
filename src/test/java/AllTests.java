/** Runs every test of the project; ends with 1 if one fails. A number told is how many random runs. */
public final class AllTests {
    private AllTests() {
    }

    public static void main(String[] args) {
        TextTests.all();
        NetTests.all();
        MachineTests.all();
        TextEdges.all();
        NetEdges.all();
        MachineEdges.all();
        Refusals.all();
        FaceTests.all();
        ReadmeTests.all();
        RandomRuns.all(args.length > 0 ? Integer.parseInt(args[0]) : 1500);
        Check.say();
        System.exit(Check.failures() == 0 ? 0 : 1);
    }
}
