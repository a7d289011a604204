/** Counts answers that are not the ones that are due, and tells them. */
public final class Check {
    private int wrong;
    private int asked;
    private String sentence = "";

    /** The words of the document that the answers behind it are held against. */
    public void sentence(String words) {
        sentence = "[" + words + "] ";
    }

    public void due(String call, long got, long want) {
        asked++;
        if (got != want) {
            wrong++;
            System.out.println(sentence + call + " answered " + got + ", due is " + want);
        }
    }

    public void holds(String what, boolean so) {
        asked++;
        if (!so) {
            wrong++;
            System.out.println(sentence + "does not hold: " + what);
        }
    }

    public int wrongSoFar() {
        return wrong;
    }

    public void finish() {
        System.out.println(asked + " answers, " + wrong + " not as due");
        if (wrong != 0) {
            System.exit(1);
        }
    }

    /** Types a text without reading it. */
    public static void typeAll(FoldRule rule, String text) {
        for (int i = 0; i < text.length(); i++) {
            rule.type(text.charAt(i));
        }
    }

    /** A new rule, read from a text. */
    public static FoldRule told(String text) {
        FoldRule rule = new FoldRule();
        typeAll(rule, text);
        int items = rule.rule();
        if (items < 0) {
            throw new IllegalStateException("the text '" + text + "' has a fault: " + items);
        }
        return rule;
    }
}
