/** Counts the answers that tests ask for, each under the words of the document that make it due. */
final class Report {
    private final Document document;
    private String where = "";
    private String words = "";
    private int askedHere = 1;
    private int asked = 0;
    private int wrong = 0;
    private int sentences = 0;

    Report(Document document) {
        this.document = document;
    }

    void turnTo(String heading, String quote) {
        leaveWords();
        where = heading;
        words = quote;
        askedHere = 0;
        sentences++;
        if (!document.quote(heading, quote)) {
            complain("the document does not say this");
        }
    }

    void due(String what, int got, int want) {
        asked++;
        askedHere++;
        if (got != want) {
            complain(what + " answered " + got + ", due is " + want);
        }
    }

    /** Says how many answers were not as due; true if none. */
    boolean end() {
        leaveWords();
        for (String rest : document.unquoted()) {
            wrong++;
            System.out.println("no test holds the class to: " + rest);
        }
        System.out.println(asked + " answers under " + sentences + " quotes, " + wrong + " faults");
        return wrong == 0;
    }

    private void leaveWords() {
        if (askedHere == 0) {
            complain("nothing is asked");
        }
    }

    private void complain(String fault) {
        wrong++;
        System.out.println(where + ", \"" + words + "\": " + fault);
    }
}
