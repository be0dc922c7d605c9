/** Each sentence of the promises, in the document's order and words: what it asks for, and its boundary cases. */
public final class BoundaryTest extends Sentences {
    public static void main(String[] args) {
        newHasVersion0Only();
        newHasNoDraft();

        openMakesADraft();
        openThrowsTheDraftAway();
        openAnswersItsLines();
        openOfNoVersion();

        putsANewLine();
        putStandsAtItsPlace();
        putAnswersTheLines();
        putWithoutDraft();
        putOfWrongContent();
        putAtNoPlace();
        putIntoTwelveLines();
        putAfterThirty();
        putAfterThrowingAway();
        putCountsLinesTakenOut();
        putRefusedIsNotCounted();
        putIsTestedInOrder();

        cutAnswersTheContent();
        cutWithoutDraft();
        cutAtNoPlace();

        closeAnswersTheNumber();
        closeWithoutDraft();
        closeWithTwelveVersions();

        discardAnswersTrue();
        discardWithoutDraft();

        versionsAreCounted();

        lengthOfVersion();
        lengthOfNoVersion();

        lineOfVersion();
        lineOfNone();

        originOfLine();
        originOfNone();

        baseOfVersion();
        baseOfVersion0();
        baseOfNoVersion();

        ancestorsOfVersion();
        ancestorsAsBits();
        ancestorsOfNoVersion();

        sharedLines();
        sharedWithNoVersion();

        placeInVersion();
        placeInOfNoLine();
        placeInWithoutTheLine();

        havingTheLine();
        havingAsBits();
        havingOfNoLine();

        draftCounts();
        draftWithoutDraft();
        draftOfWrongWhat();
        for (int promise = 1; promise <= 16; promise++) {
            allTold("Promise " + promise);
        }
        end();
    }

    // Promise 1.

    private static void newHasVersion0Only() {
        sentence("Promise 1", "Version 0 only");
        due("versions()=1 length(0)=0 length(1)=BAD length(11)=BAD base(0)=BAD base(1)=BAD ancestors(0)=1 "
                + "ancestors(1)=0 shared(0,0)=0 shared(0,1)=BAD shared(1,0)=BAD");
        due("open(1)=BAD");
        due("open(0)=0");
    }

    private static void newHasNoDraft() {
        sentence("Promise 1", "no draft is open");
        due("draft(0)=BAD draft(1)=BAD draft(2)=BAD");
        due("put(0,0)=BAD");
        due("cut(0)=BAD");
        due("close()=BAD versions()=1");
        due("discard()=false");
    }

    // Promise 2.

    private static void openMakesADraft() {
        sentence("Promise 2", "Opens version v as a draft");
        due("open(0) draft(0)=0 put(0,3)=1 cut(0)=3 close()=1");
        due(States.BRANCHES + "open(2) draft(0)=4 cut(0)=10 cut(0)=21 cut(0)=30 cut(0)=40 cut(0)=BAD");
        due(States.BRANCHES + "open(3) cut(3)=20 cut(2)=15 cut(1)=10 cut(0)=5 close()=5 base(5)=3 length(3)=4");
        due(States.FULL_TEXT_OPENED + "draft(0)=12 draft(1)=12 cut(11)=8 cut(0)=7 close()=2 base(2)=1 length(2)=10");
        due(States.TWELVE_VERSIONS + "open(11) draft(0)=11 cut(0)=11 cut(9)=1 discard()=true");
    }

    private static void openThrowsTheDraftAway() {
        sentence("Promise 2", "throwing away a draft that was open");
        due(States.BRANCHES + "open(2) put(0,77) cut(1) open(2)=4 draft(1)=4 draft(2)=0 close()=5 "
                + "line(5,0)=10 line(5,1)=21 line(5,2)=30 line(5,3)=40 line(5,4)=BAD shared(2,5)=4");
        due(States.FULL_DRAFT + "open(0)=0 draft(0)=0 close()=1 length(1)=0 versions()=2");
        due(States.BRANCHES + "open(2) open(3)=4 close()=5 base(5)=3 versions()=6");
        due(States.TWELVE_VERSIONS_AND_DRAFT + "close()=FULL open(11)=11 draft(2)=0 cut(0)=11");
        due(States.THIRTY_PUTS + "open(0)=0 " + puts(1, 12));
    }

    private static void openAnswersItsLines() {
        sentence("Promise 2", "answers the number of its lines");
        due("open(0)=0");
        due(States.FULL_TEXT + "open(1)=12 open(0)=0 open(1)=12");
        due(States.BRANCHES + "open(4)=1 open(3)=4 open(1)=3");
        due(States.TWELVE_VERSIONS + "open(11)=11 open(1)=1");
    }

    private static void openOfNoVersion() {
        sentence("Promise 2", "BAD, changing nothing, when there is no version v");
        refused(States.NEW, "open(#)", noVersion(1), "BAD");
        refused(States.ONE_LINE_DRAFT, "open(#)", noVersion(1), "BAD");
        refused(States.BRANCHES, "open(#)", noVersion(5), "BAD");
        refused(States.BRANCHES_AND_DRAFT, "open(#)", noVersion(5), "BAD");
        refused(States.THIRTY_PUTS, "open(#)", noVersion(1), "BAD");
        refused(States.TWELVE_VERSIONS, "open(#)", noVersion(12), "BAD");
        refused(States.TWELVE_VERSIONS_AND_DRAFT, "open(#)", noVersion(12), "BAD");
    }

    // Promise 3.

    private static void putsANewLine() {
        sentence("Promise 3", "Puts a new line into the draft so that it");
        due("open(0) put(0,5)=1 draft(0)=1 draft(2)=1 close()=1 length(1)=1 line(1,0)=5 origin(1,0)=1 having(1,0)=2");
        due(States.ONE_VERSION_MORE + "open(1) put(1,5)=2 draft(1)=1 draft(2)=1 length(1)=1 close()=2 "
                + "line(2,1)=5 origin(2,1)=2 origin(2,0)=1 having(2,1)=4 placeIn(2,1,1)=BAD shared(1,2)=1");
        due(States.ONE_VERSION_MORE + "open(1) cut(0)=5 put(0,5)=1 close()=2 line(2,0)=5 origin(2,0)=2 shared(1,2)=0");
    }

    private static void putStandsAtItsPlace() {
        sentence("Promise 3", "stands at place i (0 to the number of its lines)");
        due("open(0) put(0,1) put(0,2)=2 put(2,3)=3 put(1,4)=4 close() "
                + "line(1,0)=2 line(1,1)=4 line(1,2)=1 line(1,3)=3 line(1,4)=BAD");
        due(States.FULL_DRAFT + "cut(0) put(0,1)=12 close() line(1,0)=1 line(1,10)=7 line(1,11)=8");
        due(States.FULL_DRAFT + "cut(0) put(11,1)=12 close() line(1,0)=7 line(1,10)=8 line(1,11)=1");
    }

    private static void putAnswersTheLines() {
        sentence("Promise 3", "answers the number of lines then");
        due("open(0) " + puts(1, 12));
        due(States.BRANCHES + "open(2) put(4,1)=5 cut(0) put(0,1)=5");
    }

    private static void putWithoutDraft() {
        sentence("Promise 3", "BAD when no draft is open");
        for (String none : new String[] {States.NEW, States.ONE_VERSION_MORE, States.DISCARDED, States.FULL_TEXT,
            States.TWELVE_VERSIONS}) {
            refused(none, "put(0,0)", "BAD");
            refused(none, "put(0,99)", "BAD");
        }
    }

    private static void putOfWrongContent() {
        sentence("Promise 3", "BAD when .. content is not 0 .. 99");
        refused(States.EMPTY_DRAFT, "put(0,#)", outside(0, 99), "BAD");
        refused(States.BRANCHES_AND_DRAFT, "put(4,#)", outside(0, 99), "BAD");
    }

    private static void putAtNoPlace() {
        sentence("Promise 3", "BAD when .. there is no such place");
        refused(States.EMPTY_DRAFT, "put(#,5)", outside(0, 0), "BAD");
        refused(States.ONE_LINE_DRAFT, "put(#,0)", outside(0, 1), "BAD");
        refused(States.BRANCHES_AND_DRAFT, "put(#,99)", outside(0, 4), "BAD");
    }

    private static void putIntoTwelveLines() {
        sentence("Promise 3", "FULL when the draft has twelve lines");
        for (int i = 0; i <= 12; i++) {
            refused(States.FULL_DRAFT, "put(" + i + ",0)", "FULL");
            refused(States.FULL_TEXT_OPENED, "put(" + i + ",99)", "FULL");
        }
        due("open(0) put(0,1)*11 put(0,1)=12 put(0,1)=FULL cut(0)=1 put(0,1)=12 put(0,1)=FULL");
    }

    private static void putAfterThirty() {
        sentence("Promise 3", "FULL when .. 30 lines in all were put into drafts");
        due(States.TWENTY_NINE_PUTS + "put(0,3)=2 put(0,3)=FULL draft(0)=2");
        refused(States.THIRTY_PUTS, "put(#,5)", new int[] {0, 1}, "FULL");
        due("open(0) put(0,1)*12 close() open(0) put(0,2)*12 close() open(0) " + puts(1, 6) + "put(0,3)=FULL");
        due(States.THIRTY_PUTS_CLOSED + "open(0)=0 put(0,3)=FULL open(3)=6 put(6,3)=FULL cut(0)=3 put(0,3)=FULL");
        due(States.TWELVE_VERSIONS + "open(0) " + puts(1, 12) + "cut(0)=4 put(0,4)=12 ".repeat(7)
                + "cut(0)=4 put(0,4)=FULL");
        due(States.THIRTY_PUTS_CLOSED + "open(1)=12 close()=4 length(4)=12");
    }

    private static void putAfterThrowingAway() {
        sentence("Promise 3", "drafts that were not thrown away");
        due(("open(0)=0 " + puts(1, 12) + "discard()=true ").repeat(5) + "open(0) " + puts(1, 12));
        due(("open(0)=0 " + puts(1, 12)).repeat(6));
        due(States.THIRTY_PUTS + "put(0,5)=FULL discard()=true open(0)=0 put(0,5)=1");
        due(States.THIRTY_PUTS + "put(0,5)=FULL open(0)=0 put(0,5)=1");
        due(States.THIRTY_PUTS + "open(1)=BAD put(0,5)=FULL");
        due(States.THIRTY_PUTS_CLOSED + "open(0) discard()=true open(0) put(0,5)=FULL");
        due("open(0) put(0,1)*12 close() open(0) put(0,2)*12 discard() open(0) put(0,3)*12 close() open(0) "
                + puts(1, 6) + "put(0,4)=FULL open(1)=12 cut(0)=1 put(0,5)=12 close()=3 open(0) "
                + puts(1, 5) + "put(0,4)=FULL having(3,0)=8 origin(3,0)=3");
    }

    private static void putCountsLinesTakenOut() {
        sentence("Promise 3", "lines taken out again counted too");
        due("open(0) " + "put(0,1)=1 cut(0)=1 ".repeat(30) + "put(0,1)=FULL draft(0)=0 close()=1 length(1)=0 "
                + "open(1)=0 put(0,1)=FULL");
        due("open(0) " + "put(0,1)=1 cut(0)=1 ".repeat(29) + "close() open(0) put(0,1)=1 put(0,1)=FULL");
        due(States.FULL_TEXT + "open(1) cut(0)*12 close()=2 open(2) " + puts(1, 12) + "cut(0)*12 " + puts(1, 6)
                + "put(0,1)=FULL");
    }

    private static void putRefusedIsNotCounted() {
        sentence("Promise 3", "30 lines in all were put into drafts");
        due("open(0) put(0,100)*40=BAD put(1,0)*40=BAD " + puts(1, 12) + "put(0,1)*40=FULL cut(0)*12 " + puts(1, 12)
                + "put(0,1)*40=FULL cut(0)*12 " + puts(1, 6) + "put(0,1)=FULL");
        due(States.THIRTY_PUTS + "put(0,1)*40=FULL open(0) " + puts(1, 12));
    }

    private static void putIsTestedInOrder() {
        sentence("Promise 3", "Tested in this order: BAD .. FULL");
        refused(States.FULL_DRAFT, "put(0,#)", outside(0, 99), "BAD");
        refused(States.FULL_DRAFT, "put(#,5)", outside(0, 12), "BAD");
        refused(States.THIRTY_PUTS, "put(0,#)", outside(0, 99), "BAD");
        refused(States.THIRTY_PUTS, "put(#,5)", outside(0, 1), "BAD");
        refused(States.THIRTY_PUTS_CLOSED, "put(0,5)", "BAD");
        refused(States.ALL_FULL, "put(#,5)", outside(0, 12), "BAD");
        refused(States.ALL_FULL, "put(12,#)", outside(0, 99), "BAD");
        refused(States.ALL_FULL, "put(12,99)", "FULL");
        refused(States.ALL_FULL + "discard() ", "put(0,5)", "BAD");
    }

    // Promise 4.

    private static void cutAnswersTheContent() {
        sentence("Promise 4", "Takes the line at place i out of the draft and answers its content");
        due(States.FULL_TEXT_OPENED + "cut(11)=8 cut(10)=7 cut(10)=BAD cut(0)=7 draft(0)=9");
        due("open(0) put(0,0) put(1,99) cut(1)=99 cut(0)=0 draft(0)=0");
        due(States.BRANCHES_AND_DRAFT + "cut(3)=40 cut(0)=10 cut(1)=50 cut(0)=30 cut(0)=BAD close()=5 length(5)=0");
    }

    private static void cutWithoutDraft() {
        sentence("Promise 4", "BAD when no draft is open");
        for (String none : new String[] {States.NEW, States.ONE_VERSION_MORE, States.DISCARDED, States.FULL_TEXT,
            States.TWELVE_VERSIONS}) {
            refused(none, "cut(0)", "BAD");
        }
    }

    private static void cutAtNoPlace() {
        sentence("Promise 4", "BAD when .. there is no such place");
        refused(States.EMPTY_DRAFT, "cut(#)", outside(0, -1), "BAD");
        refused(States.ONE_LINE_DRAFT, "cut(#)", outside(0, 0), "BAD");
        refused(States.BRANCHES_AND_DRAFT, "cut(#)", outside(0, 3), "BAD");
        refused(States.FULL_DRAFT, "cut(#)", outside(0, 11), "BAD");
        refused(States.ONE_LINE_DRAFT + "cut(0) ", "cut(0)", "BAD");
    }

    // Promise 5.

    private static void closeAnswersTheNumber() {
        sentence("Promise 5", "Closes the draft and answers the number of the new version");
        due("open(0) close()=1 draft(0)=BAD discard()=false open(1) close()=2 open(0) close()=3 versions()=4");
        due("open(0) close() ".repeat(10) + "open(0) close()=11 draft(0)=BAD versions()=12");
    }

    private static void closeWithoutDraft() {
        sentence("Promise 5", "BAD when no draft is open");
        for (String none : new String[] {States.NEW, States.ONE_VERSION_MORE, States.CLOSED_UNCHANGED,
            States.DISCARDED, States.FULL_TEXT, States.TWELVE_VERSIONS,
            States.TWELVE_VERSIONS_AND_DRAFT + "discard() "}) {
            refused(none, "close()", "BAD");
        }
    }

    private static void closeWithTwelveVersions() {
        sentence("Promise 5", "FULL, the draft staying open, when there are twelve versions");
        refused(States.TWELVE_VERSIONS_AND_DRAFT, "close()", "FULL");
        refused(States.TWELVE_VERSIONS_REFUSED, "close()", "FULL");
        refused(States.ALL_FULL, "close()", "FULL");
        due(States.TWELVE_VERSIONS + "open(11) close()=FULL draft(0)=11 put(11,70)=12 close()=FULL draft(2)=1 "
                + "cut(11)=70 draft(2)=0 close()=FULL versions()=12 length(12)=BAD discard()=true close()=BAD");
        due(States.THIRTY_PUTS + "close()=1");
        due(States.FULL_DRAFT + "close()=1");
    }

    // Promise 6.

    private static void discardAnswersTrue() {
        sentence("Promise 6", "Throws the draft away and answers true");
        due("open(0) discard()=true draft(0)=BAD put(0,1)=BAD cut(0)=BAD close()=BAD discard()=false versions()=1");
        due(States.BRANCHES_AND_DRAFT + "discard()=true draft(0)=BAD versions()=5 line(2,1)=21 open(2)=4 draft(2)=0");
        due(States.TWELVE_VERSIONS_REFUSED + "discard()=true draft(0)=BAD close()=BAD versions()=12");
        due(States.DISCARDED + "open(0)=0 close()=1 length(1)=0");
    }

    private static void discardWithoutDraft() {
        sentence("Promise 6", "false when none is open");
        for (String none : new String[] {States.NEW, States.ONE_VERSION_MORE, States.DISCARDED, States.FULL_TEXT,
            States.THIRTY_PUTS_CLOSED, States.TWELVE_VERSIONS}) {
            refused(none, "discard()", "false");
        }
    }

    // Promise 7.

    private static void versionsAreCounted() {
        sentence("Promise 7", "The number of versions");
        StringBuilder calls = new StringBuilder("versions()=1 ");
        for (int n = 2; n <= 12; n++) {
            calls.append("open(0) versions()=" + (n - 1) + " discard() versions()=" + (n - 1)
                    + " open(0) close() versions()=" + n + " ");
        }
        due(calls + "open(0) close()=FULL versions()=12 discard() versions()=12");
    }

    // Promise 8.

    private static void lengthOfVersion() {
        sentence("Promise 8", "The number of lines of version v");
        due(States.FULL_TEXT + "length(0)=0 length(1)=12 open(1) cut(0) length(1)=12 close()=2 length(2)=11");
        due(States.TWELVE_VERSIONS + "length(0)=0 length(1)=1 length(10)=10 length(11)=11");
    }

    private static void lengthOfNoVersion() {
        sentence("Promise 8", "BAD when there is none");
        each(States.NEW, "length(#)", noVersion(1), "BAD");
        each(States.BRANCHES_AND_DRAFT, "length(#)", noVersion(5), "BAD");
        each(States.TWELVE_VERSIONS_AND_DRAFT, "length(#)", noVersion(12), "BAD");
    }

    // Promise 9.

    private static void lineOfVersion() {
        sentence("Promise 9", "The content of the line at place i of version v");
        due("open(0) put(0,0) put(1,99) close() line(1,0)=0 line(1,1)=99");
        due(States.FULL_TEXT + "line(1,0)=7 line(1,10)=7 line(1,11)=8");
        due(States.TWELVE_VERSIONS + "line(11,0)=11 line(11,10)=1 line(1,0)=1");
    }

    private static void lineOfNone() {
        sentence("Promise 9", "BAD when there is none");
        noSuchLine("line(@v,@i)", "BAD");
    }

    /** A call that asks for the line at place @i of version @v answers so when there is no such line. */
    private static void noSuchLine(String call, String answer) {
        String inV = call.replace("@v", "#");
        for (String i : new String[] {"0", "1", "11", "-1", "MIN", "MAX"}) {
            each(States.NEW, inV.replace("@i", i), noVersion(1), answer);
            each(States.BRANCHES_AND_DRAFT, inV.replace("@i", i), noVersion(5), answer);
            each(States.TWELVE_VERSIONS_AND_DRAFT, inV.replace("@i", i), noVersion(12), answer);
        }
        String atI = call.replace("@i", "#");
        each(States.NEW, atI.replace("@v", "0"), outside(0, -1), answer);
        each(States.BRANCHES_AND_DRAFT, atI.replace("@v", "0"), outside(0, -1), answer);
        each(States.BRANCHES_AND_DRAFT, atI.replace("@v", "1"), outside(0, 2), answer);
        each(States.BRANCHES_AND_DRAFT, atI.replace("@v", "2"), outside(0, 3), answer);
        each(States.BRANCHES_AND_DRAFT, atI.replace("@v", "4"), outside(0, 0), answer);
        each(States.FULL_TEXT, atI.replace("@v", "1"), outside(0, 11), answer);
        each(States.FULL_TEXT + "open(1) close() ", atI.replace("@v", "1"), outside(0, 11), answer);
        each(States.TWELVE_VERSIONS_AND_DRAFT, atI.replace("@v", "11"), outside(0, 10), answer);
    }

    // Promise 10.

    private static void originOfLine() {
        sentence("Promise 10", "The version that the line at place i of version v belongs to");
        due(States.TWELVE_VERSIONS + "origin(1,0)=1 origin(11,0)=11 origin(11,10)=1 origin(10,0)=10");
        due(States.FULL_TEXT_OPENED + "close()=2 origin(2,0)=1 origin(2,11)=1");
        due(States.BRANCHES + "origin(2,0)=1 origin(2,1)=2 origin(3,0)=3 origin(3,3)=1 origin(4,0)=4");
    }

    private static void originOfNone() {
        sentence("Promise 10", "BAD when there is none");
        noSuchLine("origin(@v,@i)", "BAD");
    }

    // Promise 11.

    private static void baseOfVersion() {
        sentence("Promise 11", "The base of version v");
        due(States.BRANCHES + "base(1)=0 base(2)=1 base(3)=1 base(4)=0");
        due(States.BRANCHES + "open(4) open(2) close()=5 base(5)=2 open(3) open(99)=BAD close()=6 base(6)=3");
        due(States.BRANCHES + "open(1) discard() open(4) base(4)=0 close()=5 base(5)=4");
    }

    private static void baseOfVersion0() {
        sentence("Promise 11", "BAD when v is 0");
        due("base(0)=BAD open(0) base(0)=BAD close() base(0)=BAD base(1)=0");
        due(States.TWELVE_VERSIONS_AND_DRAFT + "base(0)=BAD base(1)=0 base(11)=10");
    }

    private static void baseOfNoVersion() {
        sentence("Promise 11", "BAD when .. there is none");
        each(States.NEW, "base(#)", noVersion(1), "BAD");
        each(States.BRANCHES_AND_DRAFT, "base(#)", noVersion(5), "BAD");
        each(States.TWELVE_VERSIONS_AND_DRAFT, "base(#)", noVersion(12), "BAD");
    }

    // Promise 12.

    private static void ancestorsOfVersion() {
        sentence("Promise 12", "The ancestors of version v");
        due(States.BRANCHES + "ancestors(1)=3 ancestors(2)=7 ancestors(3)=11 ancestors(4)=17");
        due(States.BRANCHES_AND_DRAFT + "ancestors(2)=7 close()=5 ancestors(5)=39 ancestors(2)=7 ancestors(3)=11");
    }

    private static void ancestorsAsBits() {
        sentence("Promise 12", "bit w for version w");
        due("ancestors(0)=1");
        due(States.TWELVE_VERSIONS_AND_DRAFT + "ancestors(0)=1 ancestors(1)=3 ancestors(11)=4095");
        due("open(0) close() ".repeat(10) + "open(10) close()=11 ancestors(11)=3073");
    }

    private static void ancestorsOfNoVersion() {
        sentence("Promise 12", "0 when there is none");
        each(States.NEW, "ancestors(#)", noVersion(1), "0");
        each(States.BRANCHES_AND_DRAFT, "ancestors(#)", noVersion(5), "0");
        each(States.TWELVE_VERSIONS_AND_DRAFT, "ancestors(#)", noVersion(12), "0");
    }

    // Promise 13.

    private static void sharedLines() {
        sentence("Promise 13", "The number of lines that are in version v and in version w");
        due("shared(0,0)=0");
        due(States.FULL_TEXT_OPENED + "close() shared(1,2)=12 shared(2,1)=12 shared(2,2)=12 shared(0,2)=0");
        due(States.TWELVE_VERSIONS + "shared(11,11)=11 shared(11,1)=1 shared(1,11)=1 shared(10,11)=10 shared(11,0)=0");
        due(States.BRANCHES + "shared(2,3)=1 shared(3,2)=1 shared(4,1)=0 shared(1,4)=0");
    }

    private static void sharedWithNoVersion() {
        sentence("Promise 13", "BAD when one is not there");
        each(States.NEW, "shared(0,#)", noVersion(1), "BAD");
        each(States.NEW, "shared(#,0)", noVersion(1), "BAD");
        each(States.BRANCHES_AND_DRAFT, "shared(2,#)", noVersion(5), "BAD");
        each(States.BRANCHES_AND_DRAFT, "shared(#,2)", noVersion(5), "BAD");
        each(States.BRANCHES_AND_DRAFT, "shared(#,#)", noVersion(5), "BAD");
        each(States.TWELVE_VERSIONS_AND_DRAFT, "shared(11,#)", noVersion(12), "BAD");
        each(States.TWELVE_VERSIONS_AND_DRAFT, "shared(#,11)", noVersion(12), "BAD");
        each(States.TWELVE_VERSIONS_AND_DRAFT, "shared(0,#)", noVersion(12), "BAD");
        each(States.TWELVE_VERSIONS_AND_DRAFT, "shared(#,0)", noVersion(12), "BAD");
    }

    // Promise 14.

    private static void placeInVersion() {
        sentence("Promise 14", "The place, in version w, of the line at place i of version v");
        due(States.TWELVE_VERSIONS + "placeIn(1,0,11)=10 placeIn(11,10,1)=0 placeIn(11,0,11)=0 placeIn(11,10,11)=10");
        due(States.FULL_TEXT_OPENED + "cut(0) put(11,9) close() "
                + "placeIn(1,11,2)=10 placeIn(1,1,2)=0 placeIn(2,11,2)=11");
    }

    private static void placeInOfNoLine() {
        sentence("Promise 14", "BAD when there is no such line");
        noSuchLine("placeIn(@v,@i,0)", "BAD");
        noSuchLine("placeIn(@v,@i,@v)", "BAD");
        each(States.BRANCHES_AND_DRAFT, "placeIn(1,#,2)", outside(0, 2), "BAD");
        each(States.BRANCHES_AND_DRAFT, "placeIn(#,0,2)", noVersion(5), "BAD");
    }

    private static void placeInWithoutTheLine() {
        sentence("Promise 14", "BAD when .. it is not in w");
        due(States.BRANCHES + "placeIn(1,1,2)=BAD placeIn(2,1,1)=BAD placeIn(2,2,3)=BAD placeIn(3,0,2)=BAD "
                + "placeIn(4,0,1)=BAD placeIn(1,0,4)=BAD placeIn(1,0,0)=BAD");
        due(States.TWELVE_VERSIONS + "placeIn(11,0,10)=BAD placeIn(2,0,1)=BAD");
        due(States.ONE_VERSION_MORE + "open(1) cut(0) close()=2 placeIn(1,0,2)=BAD placeIn(1,0,1)=0");
        each(States.ONE_VERSION_MORE, "placeIn(1,0,#)", noVersion(2), "BAD");
        each(States.BRANCHES_AND_DRAFT, "placeIn(1,0,#)", noVersion(5), "BAD");
        each(States.TWELVE_VERSIONS_AND_DRAFT, "placeIn(11,0,#)", noVersion(12), "BAD");
    }

    // Promise 15.

    private static void havingTheLine() {
        sentence("Promise 15", "The versions that have the line at place i of version v");
        due(States.BRANCHES + "having(2,0)=14 having(3,1)=14 having(2,2)=6 having(3,3)=10 having(2,3)=4 having(3,0)=8");
        due(States.FULL_TEXT + "open(0) close() open(1) close()=3 having(1,11)=10 having(3,0)=10 having(1,10)=10");
    }

    private static void havingAsBits() {
        sentence("Promise 15", "bit w for version w");
        due(States.TWELVE_VERSIONS_AND_DRAFT
                + "having(1,0)=4094 having(11,10)=4094 having(11,0)=2048 having(10,0)=3072");
        due(States.BRANCHES + "having(1,0)=14 having(1,1)=10 having(1,2)=6 having(4,0)=16");
        due(States.ONE_VERSION_MORE + "open(1) having(1,0)=2 cut(0) having(1,0)=2 close()=2 having(1,0)=2");
        due(States.ONE_VERSION_MORE + "open(1) having(1,0)=2 close()=2 having(1,0)=6 having(2,0)=6");
    }

    private static void havingOfNoLine() {
        sentence("Promise 15", "0 when there is no such line");
        noSuchLine("having(@v,@i)", "0");
    }

    // Promise 16.

    private static void draftCounts() {
        sentence("Promise 16", "The number of lines of the draft (of those of its base, when what is 1; "
                + "new ones, when what is 2; all, when what is 0)");
        due("open(0) draft(0)=0 draft(1)=0 draft(2)=0");
        due(States.FULL_DRAFT + "draft(0)=12 draft(1)=0 draft(2)=12");
        due(States.FULL_TEXT_OPENED + "draft(0)=12 draft(1)=12 draft(2)=0 cut(0) put(0,7) "
                + "draft(0)=12 draft(1)=11 draft(2)=1 cut(0)*12 draft(0)=0 draft(1)=0 draft(2)=0");
        due(States.THIRTY_PUTS + "draft(0)=1 draft(1)=0 draft(2)=1 cut(0) draft(0)=0 draft(2)=0");
        due(States.THIRTY_PUTS_CLOSED + "open(3) draft(0)=6 draft(1)=6 draft(2)=0");
        due(States.TWELVE_VERSIONS_REFUSED + "draft(0)=3 draft(1)=2 draft(2)=1");
    }

    private static void draftWithoutDraft() {
        sentence("Promise 16", "BAD when none is open");
        for (String none : new String[] {States.NEW, States.ONE_VERSION_MORE, States.DISCARDED, States.FULL_TEXT,
            States.TWELVE_VERSIONS}) {
            each(none, "draft(#)", new int[] {0, 1, 2}, "BAD");
            each(none, "draft(#)", outside(0, 2), "BAD");
        }
    }

    private static void draftOfWrongWhat() {
        sentence("Promise 16", "BAD when .. what is not 0 .. 2");
        refused(States.EMPTY_DRAFT, "draft(#)", outside(0, 2), "BAD");
        refused(States.BRANCHES_AND_DRAFT, "draft(#)", outside(0, 2), "BAD");
        refused(States.TWELVE_VERSIONS_REFUSED, "draft(#)", outside(0, 2), "BAD");
    }
}
