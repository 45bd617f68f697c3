/** Counts and prints the answers that are not the ones due. */
final class Check {
    private String sentence = "";
    private int madeBefore = 0;
    private int made = 0;
    private int wrong = 0;

    /** What follows tests this sentence of the document; a sentence without a check is a fault of the test. */
    void sentence(String where, String words) {
        closeSentence();
        sentence = where + ", \"" + words + "\": ";
        madeBefore = made;
    }

    private void closeSentence() {
        if (!sentence.isEmpty() && made == madeBefore) {
            wrong++;
            System.out.println(sentence + "nothing was checked");
        }
    }

    void same(String call, long got, long due) {
        made++;
        if (got != due) {
            wrong++;
            System.out.println(sentence + call + " answered " + got + ", due is " + due);
        }
    }

    void yes(String call, boolean got) {
        same(call, got ? 1L : 0L, 1L);
    }

    void no(String call, boolean got) {
        same(call, got ? 1L : 0L, 0L);
    }

    void end() {
        closeSentence();
        System.out.println(made + " checks, " + wrong + " wrong");
        if (wrong != 0 || made == 0) {
            System.exit(1);
        }
    }
}
