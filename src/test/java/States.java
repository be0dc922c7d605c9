/** Runs of calls, as text, that lead to the states about the document's bounds. */
final class States {
    static final String NEW = "";
    static final String EMPTY_DRAFT = "open(0) ";
    static final String ONE_LINE_DRAFT = "open(0) put(0,5) ";
    static final String ONE_VERSION_MORE = "open(0) put(0,5) close() ";
    static final String CLOSED_UNCHANGED = "open(0) close() ";
    static final String DISCARDED = "open(0) put(0,5) discard() ";

    /** Version 1: 10 20 30; version 2 of 1: 10 21 30 40; version 3 of 1: 5 10 15 20; version 4 of 0: 10. */
    static final String BRANCHES =
            "open(0) put(0,10) put(1,20) put(2,30) close() "
            + "open(1) cut(1) put(1,21) put(3,40) close() "
            + "open(1) put(1,15) put(0,5) cut(4) close() "
            + "open(0) put(0,10) close() ";
    /** The draft is 10 30 50 40, of version 2. */
    static final String BRANCHES_AND_DRAFT = BRANCHES + "open(2) put(3,50) cut(1) ";

    static final String FULL_DRAFT = "open(0) put(0,7)*11 put(11,8) ";
    static final String FULL_TEXT = FULL_DRAFT + "close() ";
    static final String FULL_TEXT_OPENED = FULL_TEXT + "open(1) ";

    /** One line is in the draft: number 29, and number 30. */
    static final String TWENTY_NINE_PUTS = "open(0) " + "put(0,1) cut(0) ".repeat(28) + "put(0,2) ";
    static final String THIRTY_PUTS = "open(0) " + "put(0,1) cut(0) ".repeat(29) + "put(0,2) ";
    /** Versions 1 and 2 have twelve lines each and version 3 has six; none is open. */
    static final String THIRTY_PUTS_CLOSED =
            "open(0) put(0,1)*12 close() open(0) put(0,2)*12 close() open(0) put(0,3)*6 close() ";

    /** Every version but 0 has the one before it for its base and one line more, its own number, in front. */
    static final String TWELVE_VERSIONS = chain();
    static final String TWELVE_VERSIONS_AND_DRAFT = TWELVE_VERSIONS + "open(11) put(0,50) ";
    static final String TWELVE_VERSIONS_REFUSED = TWELVE_VERSIONS + "open(3) put(3,60) cut(0) close() ";
    static final String ALL_FULL =
            THIRTY_PUTS_CLOSED + "open(0) close() ".repeat(8) + "open(2) ";

    static final String[] ALL = {
        NEW, EMPTY_DRAFT, ONE_LINE_DRAFT, ONE_VERSION_MORE, CLOSED_UNCHANGED, DISCARDED, BRANCHES,
        BRANCHES_AND_DRAFT, FULL_DRAFT, FULL_TEXT, FULL_TEXT_OPENED, TWENTY_NINE_PUTS, THIRTY_PUTS,
        THIRTY_PUTS_CLOSED, TWELVE_VERSIONS, TWELVE_VERSIONS_AND_DRAFT, TWELVE_VERSIONS_REFUSED, ALL_FULL,
    };

    private static String chain() {
        StringBuilder calls = new StringBuilder();
        for (int v = 1; v <= 11; v++) {
            calls.append("open(" + (v - 1) + ") put(0," + v + ") close() ");
        }
        return calls.toString();
    }
}
