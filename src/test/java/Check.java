/** Counts answers that are not as due; each test ends by it. */
final class Check {
    private int wrong = 0;
    private int looked = 0;
    private String sentence = "";

    /** The document's sentence that the next rows look at; a wrong row is told with it. */
    void about(String words) {
        sentence = "[" + words + "] ";
    }

    void due(String call, long got, long want) {
        looked++;
        if (got != want) {
            wrong++;
            System.out.println(sentence + call + " answered " + got + ", due is " + want);
        }
    }

    void holds(String what, boolean held) {
        looked++;
        if (!held) {
            wrong++;
            System.out.println(sentence + "does not hold: " + what);
        }
    }

    boolean allRight() {
        return wrong == 0;
    }

    void end() {
        System.out.println(looked + " looked at, " + wrong + " wrong");
        if (wrong != 0) {
            System.exit(1);
        }
    }

    static MarketSpring town(String text) {
        MarketSpring x = new MarketSpring();
        typeAll(x, text);
        return x;
    }

    static void typeAll(MarketSpring x, String text) {
        for (int i = 0; i < text.length(); i++) {
            x.type(text.charAt(i));
        }
    }
}
