/** Counts and prints the answers that are not the ones due. */
final class Check {
    private int wrong = 0;
    private String part = "";

    void part(String name) {
        part = name;
    }

    /** One test, of one sentence of the document. No call may throw, so a throw is wrong too. */
    void sentence(String section, String words, Runnable test) {
        part(section + ", \"" + words + "\"");
        try {
            test.run();
        } catch (RuntimeException thrown) {
            wrong++;
            System.out.println(part + ": threw " + thrown);
        }
    }

    void due(String call, long got, long want) {
        if (got != want) {
            wrong++;
            System.out.println(part + ": " + call + " answered " + got + ", due is " + want);
        }
    }

    void due(String call, boolean got, boolean want) {
        due(call, got ? 1 : 0, want ? 1 : 0);
    }

    void due(String what, String got, String want) {
        if (!got.equals(want)) {
            wrong++;
            System.out.println(part + ": " + what + " is\n  " + got + "\ndue is\n  " + want);
        }
    }

    /** Takes 81 calls: these cells are blocked and no other one is. */
    void dueBlocked(CostmapNavigator x, int... cells) {
        boolean[] want = new boolean[81];
        for (int c : cells) {
            want[c] = true;
        }
        for (int c = 0; c < 81; c++) {
            due("blocked(" + c + ")", x.blocked(c), want[c]);
        }
    }

    int wrong() {
        return wrong;
    }

    void end() {
        System.out.println(wrong == 0 ? "all answers are as due" : wrong + " answers are not as due");
        if (wrong != 0) {
            System.exit(1);
        }
    }
}
