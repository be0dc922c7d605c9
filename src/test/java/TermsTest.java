import java.util.ArrayList;
import java.util.List;

/** Each sentence under "What it is" and "Terms", in the document's order and words. */
public final class TermsTest extends Sentences {
    /** What every version of States.BRANCHES says. */
    private static final String TEXTS = "length(0)=0 line(0,0)=BAD "
            + "length(1)=3 line(1,0)=10 line(1,1)=20 line(1,2)=30 line(1,3)=BAD origin(1,2)=1 base(1)=0 "
            + "length(2)=4 line(2,0)=10 line(2,1)=21 line(2,2)=30 line(2,3)=40 origin(2,1)=2 base(2)=1 "
            + "length(3)=4 line(3,0)=5 line(3,1)=10 line(3,2)=15 line(3,3)=20 origin(3,1)=1 base(3)=1 "
            + "length(4)=1 line(4,0)=10 line(4,1)=BAD origin(4,0)=4 base(4)=0 "
            + "shared(1,2)=2 shared(1,3)=2 shared(2,3)=1 placeIn(1,1,3)=3 placeIn(3,1,2)=0 ";

    public static void main(String[] args) {
        keepsAllVersions();
        use512Calls();
        laterCallsAreFree();
        allTold("What it is");

        textOfAtMostTwelveLines();
        textIsAList();
        contentFrom0To99();
        equalContentIsNotOneLine();
        atMostTwelveVersions();
        version0IsTheEmptyText();
        everyOtherVersionHasAnEarlierBase();
        baseIsTheDraftThen();
        linesArePutInAndTakenOut();
        draftBecomesTheNextVersion();
        linesLeftAreTheSame();
        linesPutInAreNew();
        versionsNeverChange();
        ancestorsStartWithTheVersionItself();
        allTold("Terms");
        end();
    }

    /** The calls that ask a version for its lines, and the one after the last, with the answers due. */
    private static String text(int v, List<Integer> contents) {
        StringBuilder calls = new StringBuilder("length(" + v + ")=" + contents.size() + " ");
        for (int i = 0; i < contents.size(); i++) {
            calls.append("line(" + v + "," + i + ")=" + contents.get(i) + " ");
        }
        return calls + "line(" + v + "," + contents.size() + ")=BAD ";
    }

    /** A new draft of so many lines, with the contents 1, 2, 3, .. */
    private static String countedDraft(int lines) {
        StringBuilder calls = new StringBuilder("open(0)=0 ");
        for (int i = 0; i < lines; i++) {
            calls.append("put(" + i + "," + (i + 1) + ")=" + (i + 1) + " ");
        }
        return calls.toString();
    }

    private static List<Integer> counted(int lines) {
        List<Integer> contents = new ArrayList<>();
        for (int i = 0; i < lines; i++) {
            contents.add(i + 1);
        }
        return contents;
    }

    // What it is.

    private static void keepsAllVersions() {
        sentence("What it is", "Keeps all versions of a text that grows in branches");
        due(States.BRANCHES + TEXTS + "versions()=5");
        due(States.TWELVE_VERSIONS + text(0, List.of()) + text(1, List.of(1)) + text(2, List.of(2, 1))
                + text(6, List.of(6, 5, 4, 3, 2, 1)) + text(11, List.of(11, 10, 9, 8, 7, 6, 5, 4, 3, 2, 1)));
        // Two branches go on side by side; each keeps its own lines.
        due("open(0) put(0,1) close() open(1) put(1,2) close() open(1) put(1,3) close() open(2) put(2,4) close() "
                + "open(3) put(2,5) close() " + text(1, List.of(1)) + text(2, List.of(1, 2)) + text(3, List.of(1, 3))
                + text(4, List.of(1, 2, 4)) + text(5, List.of(1, 3, 5)) + "shared(4,5)=1 having(1,0)=62 versions()=6");
    }

    private static void use512Calls() {
        sentence("What it is", "An object is used for at most 512 calls after it has been made");
        dueToTheLast(("open(0)=0 " + puts(1, 12)).repeat(39)
                + "close()=1 length(1)=12 line(1,11)=4 origin(1,11)=1 having(1,11)=2");
        dueToTheLast("open(0)=0 put(0,7)=1 cut(0)=7 discard()=true ".repeat(127)
                + "open(0)=0 put(0,8)=1 close()=1 line(1,0)=8");
        dueToTheLast("open(0)=0 put(0,9)=1 " + "put(0,100)=BAD ".repeat(507) + "put(1,99)=2 close()=1 line(1,1)=99");
        dueToTheLast("open(0)=0 " + puts(1, 12) + "put(0,4)*497=FULL close()=1 line(1,11)=4");
        dueToTheLast("open(0)=0 close()=1 close()*509=BAD versions()=2");
        dueToTheLast(States.TWELVE_VERSIONS + "open(11)=11 close()*475=FULL draft(0)=11 versions()=12 "
                + "having(11,10)=4094");
    }

    private static void laterCallsAreFree() {
        sentence("What it is", "what later calls answer is free");
        dueToEnd("open(0) put(0,1) close() open(1) put(0,2) cut(1) close() line(1,0) having(2,0) ".repeat(100));
        dueToEnd("open(0) put(0,1)*12 cut(0)*12 discard() ".repeat(100));
        dueToEnd(States.ALL_FULL + "put(0,1) close() open(12) cut(MAX) draft(3) ancestors(MIN) discard() ".repeat(100));
    }

    // Terms.

    private static void textOfAtMostTwelveLines() {
        sentence("Terms", "A TEXT is a list of at most twelve LINES");
        due("open(0) put(0,1)*10 put(10,2)=11 put(11,3)=12 put(0,4)=FULL draft(0)=12 close()=1 length(1)=12 "
                + "line(1,10)=2 line(1,11)=3 line(1,12)=BAD");
        due(States.FULL_TEXT_OPENED + "put(12,9)=FULL draft(0)=12 close()=2 length(2)=12 line(2,11)=8 line(2,12)=BAD");
        due(States.FULL_TEXT_OPENED + "cut(11)=8 put(11,9)=12 put(12,9)=FULL close()=2 line(2,11)=9 line(1,11)=8");
        due(States.FULL_TEXT + "open(0) put(0,6) close()=2 line(2,0)=6 line(1,11)=8 line(1,12)=BAD");
    }

    private static void textIsAList() {
        sentence("Terms", "A TEXT is a list of");
        for (int lines = 0; lines < 12; lines++) {
            for (int i = 0; i <= lines; i++) {
                List<Integer> contents = counted(lines);
                contents.add(i, 50);
                due(countedDraft(lines) + "put(" + i + ",50)=" + (lines + 1) + " close()=1 " + text(1, contents));
            }
        }
        for (int lines = 1; lines <= 12; lines++) {
            for (int i = 0; i < lines; i++) {
                List<Integer> contents = counted(lines);
                int taken = contents.remove(i);
                due(countedDraft(lines) + "cut(" + i + ")=" + taken + " close()=1 " + text(1, contents));
            }
        }
    }

    private static void contentFrom0To99() {
        sentence("Terms", "a line has a content (0 .. 99)");
        due("open(0) put(0,0)=1 put(1,1)=2 put(2,98)=3 put(3,99)=4 close()=1 "
                + "line(1,0)=0 line(1,1)=1 line(1,2)=98 line(1,3)=99 "
                + "open(1) cut(3)=99 cut(2)=98 cut(1)=1 cut(0)=0");
        for (int content = 0; content <= 99; content++) {
            due("open(0) put(0," + content + ")=1 close()=1 line(1,0)=" + content + " open(1)=1 cut(0)=" + content);
        }
        each("open(0) ", "put(0,#)", outside(0, 99), "BAD");
    }

    private static void equalContentIsNotOneLine() {
        sentence("Terms", "Two lines with equal content are still two lines");
        String twins = "open(0) put(0,5) put(1,5) close() ";
        due(twins + "length(1)=2 shared(1,1)=2 placeIn(1,0,1)=0 placeIn(1,1,1)=1");
        due(twins + "open(1) cut(0)=5 draft(0)=1 close()=2 placeIn(1,0,2)=BAD placeIn(1,1,2)=0 placeIn(2,0,1)=1 "
                + "having(1,0)=2 having(1,1)=6 shared(1,2)=1 shared(2,1)=1");
        due(twins + "open(1) cut(1)=5 put(1,5)=2 draft(1)=1 draft(2)=1 close()=2 origin(2,0)=1 origin(2,1)=2 "
                + "shared(1,2)=1 placeIn(2,1,1)=BAD placeIn(1,1,2)=BAD having(2,1)=4");
        due(twins + "open(0) put(0,5) put(1,5) close()=2 shared(1,2)=0 shared(2,1)=0 having(1,0)=2 having(2,0)=4 "
                + "origin(2,0)=2 placeIn(1,0,2)=BAD");
        due(States.FULL_TEXT + "shared(1,1)=12 placeIn(1,10,1)=10 placeIn(1,0,1)=0");
    }

    private static void atMostTwelveVersions() {
        sentence("Terms", "There are at most twelve VERSIONS, with numbers 0 .. 11");
        StringBuilder calls = new StringBuilder();
        for (int v = 1; v <= 11; v++) {
            calls.append("length(" + v + ")=BAD open(0)=0 close()=" + v + " length(" + v + ")=0 ");
        }
        due(calls + "versions()=12 open(0)=0 close()=FULL versions()=12 length(12)=BAD open(12)=BAD open(11)=0");
        due(States.TWELVE_VERSIONS + "length(11)=11 line(11,0)=11 line(11,10)=1 base(11)=10 origin(11,0)=11");
    }

    private static void version0IsTheEmptyText() {
        sentence("Terms", "version 0 is the empty text");
        String empty = "length(0)=0 line(0,0)=BAD origin(0,0)=BAD having(0,0)=0 shared(0,0)=0 placeIn(0,0,0)=BAD ";
        due(empty + "open(0)=0 draft(0)=0 cut(0)=BAD");
        due("open(0) put(0,1) put(0,2) " + empty + "close()=1 " + empty + "open(0)=0");
        due(States.FULL_TEXT + empty + "shared(0,1)=0 shared(1,0)=0 placeIn(1,0,0)=BAD");
        due(States.TWELVE_VERSIONS_AND_DRAFT + empty);
    }

    private static void everyOtherVersionHasAnEarlierBase() {
        sentence("Terms", "Every other version is made from an earlier one, its BASE");
        for (int b = 0; b <= 10; b++) {
            due("open(0) close() ".repeat(10) + "open(" + b + ") close()=11 base(11)=" + b);
        }
        due(States.TWELVE_VERSIONS + "base(1)=0 base(2)=1 base(10)=9 base(11)=10 base(0)=BAD");
    }

    private static void baseIsTheDraftThen() {
        sentence("Terms", "by editing: one opens a base (its text is the DRAFT then)");
        due("open(0)=0 draft(0)=0 cut(0)=BAD");
        due(States.BRANCHES + "open(1)=3 draft(0)=3 cut(0)=10 cut(0)=20 cut(0)=30 cut(0)=BAD");
        due(States.BRANCHES + "open(2)=4 draft(0)=4 cut(0)=10 cut(0)=21 cut(0)=30 cut(0)=40 cut(0)=BAD");
        due(States.BRANCHES + "open(3)=4 draft(0)=4 cut(0)=5 cut(0)=10 cut(0)=15 cut(0)=20 cut(0)=BAD");
        due(States.BRANCHES + "open(4)=1 draft(0)=1 cut(0)=10 cut(0)=BAD");
        due(countedDraft(12) + "close()=1 open(1)=12 cut(11)=12 cut(10)=11 cut(9)=10 cut(8)=9 cut(7)=8 cut(6)=7 "
                + "cut(5)=6 cut(4)=5 cut(3)=4 cut(2)=3 cut(1)=2 cut(0)=1 draft(0)=0");
    }

    private static void linesArePutInAndTakenOut() {
        sentence("Terms", "puts lines in and takes lines out");
        due(States.BRANCHES + "open(1)=3 put(0,90)=4 cut(1)=10 put(3,91)=4 cut(2)=30 put(1,92)=4 close()=5 "
                + text(5, List.of(90, 92, 20, 91)) + "draft(0)=BAD " + TEXTS);
        due("open(0)=0 put(0,1)=1 cut(0)=1 put(0,2)=1 put(1,3)=2 cut(0)=2 put(0,4)=2 cut(1)=3 close()=1 "
                + text(1, List.of(4)));
        due(countedDraft(12) + "cut(0)=1 put(11,1)=12 cut(0)=2 put(11,2)=12 close()=1 "
                + text(1, List.of(3, 4, 5, 6, 7, 8, 9, 10, 11, 12, 1, 2)));
    }

    private static void draftBecomesTheNextVersion() {
        sentence("Terms", "closes the draft, which becomes the text of the version with the next number");
        due("open(0) put(0,1) close()=1 " + text(1, List.of(1)) + "open(0) put(0,2) close()=2 " + text(2, List.of(2))
                + "open(1) put(1,3) close()=3 " + text(3, List.of(1, 3)) + "versions()=4");
        // A draft that is thrown away and a close that is refused use up no number.
        due("open(0) put(0,1) discard() open(0) put(0,2) open(0) close()=1 close()=BAD open(1) close()=2 versions()=3 "
                + text(1, List.of()) + text(2, List.of()));
        for (int lines = 0; lines <= 12; lines++) {
            due(countedDraft(lines) + "length(1)=BAD close()=1 versions()=2 " + text(1, counted(lines)));
        }
        StringBuilder calls = new StringBuilder();
        for (int v = 1; v <= 11; v++) {
            calls.append("open(0)=0 put(0," + (10 + v) + ")=1 close()=" + v + " " + text(v, List.of(10 + v)));
        }
        due(calls + text(1, List.of(11)) + "versions()=12");
    }

    private static void linesLeftAreTheSame() {
        sentence("Terms", "The lines that are left from the base are the same lines as there");
        due(States.FULL_TEXT_OPENED + "close()=2 shared(1,2)=12 shared(2,1)=12 origin(2,0)=1 origin(2,11)=1 "
                + "placeIn(1,11,2)=11 having(2,0)=6");
        due(States.FULL_TEXT_OPENED + "cut(0)*11 close()=2 length(2)=1 placeIn(2,0,1)=11 placeIn(1,11,2)=0 "
                + "placeIn(1,10,2)=BAD origin(2,0)=1");
        due(States.FULL_TEXT_OPENED + "cut(0)*12 close()=2 length(2)=0 shared(1,2)=0 having(1,0)=2");
        for (int kept = 0; kept < 16; kept++) {
            due(fourOfWhichAreKept(kept));
        }
    }

    /** Version 1 has four lines of one content; version 2 keeps those whose bit is set. */
    private static String fourOfWhichAreKept(int kept) {
        StringBuilder cuts = new StringBuilder();
        StringBuilder asks = new StringBuilder();
        int place = 0;
        for (int i = 0; i < 4; i++) {
            boolean isKept = (kept >> i & 1) == 1;
            if (isKept) {
                asks.append("placeIn(1," + i + ",2)=" + place + " placeIn(2," + place + ",1)=" + i
                        + " having(1," + i + ")=6 having(2," + place + ")=6 origin(2," + place + ")=1 ");
                place++;
            } else {
                cuts.append("cut(" + place + ")=5 ");
                asks.append("placeIn(1," + i + ",2)=BAD having(1," + i + ")=2 ");
            }
        }
        return "open(0) put(0,5)*4 close()=1 open(1)=4 " + cuts + "draft(1)=" + place + " draft(2)=0 close()=2 "
                + "length(2)=" + place + " shared(1,2)=" + place + " shared(2,1)=" + place + " " + asks;
    }

    private static void linesPutInAreNew() {
        sentence("Terms", "those put in are new lines, which belong to the new version");
        due(States.FULL_TEXT_OPENED + "cut(11) put(0,8) close()=2 origin(2,0)=2 origin(2,1)=1 shared(1,2)=11 "
                + "placeIn(1,0,2)=1 placeIn(1,11,2)=BAD placeIn(2,0,1)=BAD having(2,0)=4");
        due("open(0) put(0,1) discard() open(0) close()=1 open(1) put(0,1) close()=2 origin(2,0)=2");
        for (int i = 0; i <= 4; i++) {
            int after = i == 4 ? 0 : i + 1;
            due("open(0) put(0,5)*4 close() open(1) put(" + i + ",5)=5 draft(1)=4 draft(2)=1 close()=2 origin(2," + i
                    + ")=2 origin(2," + after + ")=1 having(2," + i + ")=4 placeIn(2," + i + ",1)=BAD shared(1,2)=4 "
                    + "open(2) close()=3 origin(3," + i + ")=2 having(2," + i + ")=12 placeIn(3," + i + ",2)=" + i);
        }
        due(States.TWELVE_VERSIONS + "origin(11,0)=11 origin(11,1)=10 origin(11,10)=1");
    }

    private static void versionsNeverChange() {
        sentence("Terms", "Versions never change");
        for (int v = 0; v <= 4; v++) {
            due(States.BRANCHES + TEXTS + "open(" + v + ") " + TEXTS + "put(0,90) " + TEXTS + "cut(1) " + TEXTS
                    + "cut(0) " + TEXTS + "put(0,91)*8 " + TEXTS + "close()=5 " + TEXTS + "open(5) cut(0)*12 " + TEXTS
                    + "discard()=true " + TEXTS);
        }
        due(States.TWELVE_VERSIONS + "open(11) cut(0)*11 put(0,77)*12 close()=FULL length(11)=11 line(11,0)=11 "
                + "line(11,10)=1 open(10)=10 length(11)=11 line(1,0)=1");
        due("open(0) put(0,1)*12 discard() open(0) put(0,2) close()=1 open(0) put(0,3) discard() line(1,0)=2");
    }

    private static void ancestorsStartWithTheVersionItself() {
        sentence("Terms", "An ANCESTOR of a version is the version itself, its base, the base of this, and so on");
        due("ancestors(0)=1 open(0) close() ancestors(0)=1 ancestors(1)=3");
        StringBuilder chain = new StringBuilder(States.TWELVE_VERSIONS);
        StringBuilder star = new StringBuilder("open(0) close() ".repeat(11));
        for (int v = 1; v <= 11; v++) {
            chain.append("ancestors(" + v + ")=" + ((2 << v) - 1) + " ");
            star.append("ancestors(" + v + ")=" + ((1 << v) + 1) + " ");
        }
        due(chain.toString());
        due(star.toString());
        due(States.BRANCHES + "open(3) close()=5 ancestors(5)=43 ancestors(4)=17 ancestors(3)=11");
        for (int tree = 0; tree < 120; tree++) {
            due(treeOfSix(tree));
        }
    }

    /** Each number below 120 is another choice of the bases of versions 1 to 5. */
    private static String treeOfSix(int tree) {
        StringBuilder closes = new StringBuilder();
        StringBuilder asks = new StringBuilder("base(0)=BAD ancestors(0)=1 ");
        int[] ancestors = {1, 0, 0, 0, 0, 0};
        int choices = tree;
        for (int v = 1; v <= 5; v++) {
            int base = choices % v;
            choices /= v;
            ancestors[v] = ancestors[base] | 1 << v;
            closes.append("open(" + base + ") close()=" + v + " ");
            asks.append("base(" + v + ")=" + base + " ancestors(" + v + ")=" + ancestors[v] + " ");
        }
        return closes.toString() + asks;
    }
}
