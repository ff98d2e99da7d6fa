/** Counts the answers that are not due, and tells each with the sentence of the document that it breaks. */
final class Due {
    private final String test;
    private String sentence = "";
    private int wrong = 0;

    Due(String test) {
        this.test = test;
    }

    void sentence(String words) {
        sentence = words;
    }

    void is(String call, long got, long want) {
        holds(got == want, call + " answered " + got + ", due is " + want);
    }

    void holds(boolean so, String what) {
        if (!so) {
            wrong++;
            System.out.println(test + ", \"" + sentence + "\": " + what);
        }
    }

    void end() {
        System.out.println(wrong == 0 ? test + ": all as due" : test + ": " + wrong + " are wrong");
        System.exit(wrong == 0 ? 0 : 1);
    }
}
