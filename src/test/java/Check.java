/** Counts and prints the answers that are not the ones due. */
final class Check {
    private int made = 0;
    private int wrong = 0;

    void same(String call, long got, long due) {
        made++;
        if (got != due) {
            wrong++;
            System.out.println(call + " answered " + got + ", due is " + due);
        }
    }

    void yes(String call, boolean got) {
        same(call, got ? 1L : 0L, 1L);
    }

    void no(String call, boolean got) {
        same(call, got ? 1L : 0L, 0L);
    }

    void end() {
        System.out.println(made + " checks, " + wrong + " wrong");
        if (wrong != 0 || made == 0) {
            System.exit(1);
        }
    }
}
