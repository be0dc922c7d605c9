/** One method for each promise of the document: ordinary inputs, named edges, wrong inputs. */
public final class PromiseTest {
    private static final int BAD = -1;
    private static final int FULL = -2;
    private static final int LEAST = Integer.MIN_VALUE;
    private static final int MOST = Integer.MAX_VALUE;

    private static final Due DUE = new Due();

    public static void main(String[] args) {
        constants();
        promise1NewObject();
        promise2Open();
        promise2OpenThrowsTheDraftAway();
        promise3Put();
        promise3PutFullText();
        promise3PutThirtyLines();
        promise3ThrownAwayLinesAreGivenBack();
        promise3FullChangesNothing();
        promise4Cut();
        promise5Close();
        promise5CloseFull();
        promise6Discard();
        promise7Versions();
        promise8Length();
        promise9Line();
        promise10Origin();
        promise11Base();
        promise12Ancestors();
        promise13Shared();
        promise14PlaceIn();
        promise15Having();
        promise16Draft();
        versionsNeverChange();
        DUE.end();
    }

    /** Version 1: 10 20 30; version 2 of 1: 10 21 30 40; version 3 of 1: 5 10 15 20; version 4 of 0: 10. */
    private static WeaveStore branches() {
        WeaveStore x = new WeaveStore();
        x.open(0);
        x.put(0, 10);
        x.put(1, 20);
        x.put(2, 30);
        x.close();
        x.open(1);
        x.cut(1);
        x.put(1, 21);
        x.put(3, 40);
        x.close();
        x.open(1);
        x.put(1, 15);
        x.put(0, 5);
        x.cut(4);
        x.close();
        x.open(0);
        x.put(0, 10);
        x.close();
        return x;
    }

    private static void putMany(WeaveStore x, int count, int content) {
        for (int k = 0; k < count; k++) {
            x.put(0, content);
        }
    }

    private static void text(WeaveStore x, String name, int v, int... contents) {
        DUE.same(name + " length(" + v + ")", x.length(v), contents.length);
        for (int i = 0; i < contents.length; i++) {
            DUE.same(name + " line(" + v + ", " + i + ")", x.line(v, i), contents[i]);
        }
        DUE.same(name + " line after the last", x.line(v, contents.length), BAD);
    }

    private static void constants() {
        DUE.same("BAD", WeaveStore.BAD, BAD);
        DUE.same("FULL", WeaveStore.FULL, FULL);
    }

    private static void promise1NewObject() {
        WeaveStore x = new WeaveStore();
        DUE.same("p1 versions()", x.versions(), 1);
        DUE.same("p1 length(0)", x.length(0), 0);
        DUE.same("p1 length(1)", x.length(1), BAD);
        DUE.same("p1 draft(0)", x.draft(0), BAD);
        DUE.same("p1 close()", x.close(), BAD);
        DUE.same("p1 discard()", x.discard(), false);
        WeaveStore used = branches();
        WeaveStore other = new WeaveStore();
        DUE.same("p1 another object has its own versions", other.versions(), 1);
        DUE.same("p1 the used object keeps its versions", used.versions(), 5);
    }

    private static void promise2Open() {
        WeaveStore x = branches();
        DUE.same("p2 open(0)", x.open(0), 0);
        DUE.same("p2 open(1)", x.open(1), 3);
        DUE.same("p2 open(4)", x.open(4), 1);
        DUE.same("p2 open(2)", x.open(2), 4);
        int[] none = {5, 11, 12, 13, -1, LEAST, MOST};
        for (int v : none) {
            DUE.same("p2 open(" + v + ")", x.open(v), BAD);
        }
        DUE.same("p2 the draft stays after BAD", x.draft(0), 4);
        DUE.same("p2 its text stays after BAD", x.cut(1), 21);
        DUE.same("p2 close()", x.close(), 5);
        DUE.same("p2 the opened version is the base", x.base(5), 2);
        text(x, "p2", 5, 10, 30, 40);
        DUE.same("p2 open(5)", x.open(5), 3);
    }

    private static void promise2OpenThrowsTheDraftAway() {
        WeaveStore x = branches();
        x.open(2);
        x.put(0, 77);
        x.cut(1);
        DUE.same("p2 open(2) again", x.open(2), 4);
        DUE.same("p2 no new lines", x.draft(2), 0);
        DUE.same("p2 close()", x.close(), 5);
        text(x, "p2", 5, 10, 21, 30, 40);
        x.open(1);
        x.put(0, 77);
        DUE.same("p2 open(99) with new lines", x.open(99), BAD);
        DUE.same("p2 new lines stay after BAD", x.draft(2), 1);
    }

    private static void promise3Put() {
        WeaveStore x = new WeaveStore();
        DUE.same("p3 put without draft", x.put(0, 1), BAD);
        x.open(0);
        DUE.same("p3 put(0, -1)", x.put(0, -1), BAD);
        DUE.same("p3 put(0, 100)", x.put(0, 100), BAD);
        DUE.same("p3 put(0, LEAST)", x.put(0, LEAST), BAD);
        DUE.same("p3 put(0, MOST)", x.put(0, MOST), BAD);
        DUE.same("p3 put(1, 5)", x.put(1, 5), BAD);
        DUE.same("p3 put(-1, 5)", x.put(-1, 5), BAD);
        DUE.same("p3 put(0, 0)", x.put(0, 0), 1);
        DUE.same("p3 put(1, 99)", x.put(1, 99), 2);
        DUE.same("p3 put(1, 50)", x.put(1, 50), 3);
        DUE.same("p3 put(0, 7)", x.put(0, 7), 4);
        DUE.same("p3 put(5, 1)", x.put(5, 1), BAD);
        DUE.same("p3 put(LEAST, 1)", x.put(LEAST, 1), BAD);
        DUE.same("p3 put(MOST, 1)", x.put(MOST, 1), BAD);
        DUE.same("p3 wrong puts change nothing", x.draft(0), 4);
        x.close();
        text(x, "p3", 1, 7, 0, 50, 99);
        DUE.same("p3 put after close", x.put(0, 1), BAD);
    }

    private static void promise3PutFullText() {
        WeaveStore x = new WeaveStore();
        x.open(0);
        for (int n = 1; n <= 12; n++) {
            DUE.same("p3 put number " + n, x.put(n - 1, n), n);
        }
        for (int i = 0; i <= 12; i++) {
            DUE.same("p3 full put at " + i, x.put(i, 1), FULL);
        }
        DUE.same("p3 BAD place before FULL", x.put(13, 1), BAD);
        DUE.same("p3 BAD place below before FULL", x.put(-1, 1), BAD);
        DUE.same("p3 BAD content before FULL", x.put(0, 100), BAD);
        DUE.same("p3 BAD content below before FULL", x.put(0, -1), BAD);
        DUE.same("p3 cut makes room", x.cut(0), 1);
        DUE.same("p3 put into the room", x.put(11, 88), 12);
        x.close();
        text(x, "p3", 1, 2, 3, 4, 5, 6, 7, 8, 9, 10, 11, 12, 88);
    }

    private static void promise3PutThirtyLines() {
        WeaveStore x = new WeaveStore();
        x.open(0);
        for (int n = 1; n <= 29; n++) {
            DUE.same("p3 put number " + n, x.put(0, n), 1);
            DUE.same("p3 cut number " + n, x.cut(0), n);
        }
        DUE.same("p3 put number 30", x.put(0, 30), 1);
        DUE.same("p3 put number 31", x.put(0, 31), FULL);
        DUE.same("p3 cut the last", x.cut(0), 30);
        DUE.same("p3 lines taken out count too", x.put(0, 31), FULL);
        DUE.same("p3 BAD place before thirty", x.put(1, 31), BAD);
        DUE.same("p3 BAD content before thirty", x.put(0, 100), BAD);
        x.close();
        x.open(1);
        DUE.same("p3 closed drafts count", x.put(0, 31), FULL);
        x.discard();
        DUE.same("p3 no draft before thirty", x.put(0, 31), BAD);
        x.open(0);
        DUE.same("p3 closed drafts count after discard", x.put(0, 31), FULL);
    }

    private static void promise3ThrownAwayLinesAreGivenBack() {
        WeaveStore x = new WeaveStore();
        for (int round = 0; round < 5; round++) {
            x.open(0);
            putMany(x, 12, 1);
            x.discard();
        }
        for (int round = 0; round < 5; round++) {
            x.open(0);
            putMany(x, 12, 2);
        }
        x.close();
        x.open(0);
        putMany(x, 12, 3);
        x.close();
        x.open(0);
        putMany(x, 6, 4);
        DUE.same("p3 thirty are in", x.put(0, 4), FULL);
        DUE.same("p3 open(1)", x.open(1), 12);
        DUE.same("p3 cut(0)", x.cut(0), 2);
        DUE.same("p3 put after throwing away", x.put(0, 5), 12);
        x.close();
        x.open(0);
        for (int n = 1; n <= 5; n++) {
            DUE.same("p3 rest " + n, x.put(0, 6), n);
        }
        DUE.same("p3 thirty again", x.put(0, 6), FULL);
        text(x, "p3", 3, 5, 2, 2, 2, 2, 2, 2, 2, 2, 2, 2, 2);
        DUE.same("p3 reused line is in one version", x.having(3, 0), 8);
    }

    private static void promise3FullChangesNothing() {
        WeaveStore x = new WeaveStore();
        x.open(0);
        putMany(x, 12, 1);
        putMany(x, 40, 2);
        x.put(99, 1);
        x.put(0, 100);
        x.close();
        x.open(0);
        putMany(x, 12, 1);
        x.close();
        x.open(0);
        for (int n = 1; n <= 6; n++) {
            DUE.same("p3 refused puts do not count " + n, x.put(0, 3), n);
        }
        DUE.same("p3 thirty", x.put(0, 3), FULL);
        DUE.same("p3 FULL adds no line", x.draft(0), 6);
    }

    private static void promise4Cut() {
        WeaveStore x = branches();
        DUE.same("p4 cut without draft", x.cut(0), BAD);
        x.open(2);
        DUE.same("p4 cut(4)", x.cut(4), BAD);
        DUE.same("p4 cut(-1)", x.cut(-1), BAD);
        DUE.same("p4 cut(LEAST)", x.cut(LEAST), BAD);
        DUE.same("p4 cut(MOST)", x.cut(MOST), BAD);
        DUE.same("p4 wrong cuts change nothing", x.draft(0), 4);
        DUE.same("p4 cut(1)", x.cut(1), 21);
        DUE.same("p4 cut(2)", x.cut(2), 40);
        DUE.same("p4 cut(2) after the last", x.cut(2), BAD);
        DUE.same("p4 put(1, 66)", x.put(1, 66), 3);
        DUE.same("p4 cut(0)", x.cut(0), 10);
        x.close();
        text(x, "p4", 5, 66, 30);
        DUE.same("p4 cut after close", x.cut(0), BAD);
        x.open(0);
        DUE.same("p4 cut of the empty text", x.cut(0), BAD);
        x.open(5);
        DUE.same("p4 cut of a new line's version", x.cut(0), 66);
        x.discard();
        DUE.same("p4 cut after discard", x.cut(0), BAD);
        text(x, "p4", 2, 10, 21, 30, 40);
    }

    private static void promise5Close() {
        WeaveStore x = new WeaveStore();
        DUE.same("p5 close without draft", x.close(), BAD);
        x.open(0);
        x.put(0, 3);
        DUE.same("p5 close()", x.close(), 1);
        DUE.same("p5 close again", x.close(), BAD);
        DUE.same("p5 no draft then", x.draft(0), BAD);
        DUE.same("p5 versions()", x.versions(), 2);
        x.open(1);
        DUE.same("p5 close of an unchanged draft", x.close(), 2);
        text(x, "p5", 2, 3);
        x.open(0);
        x.discard();
        DUE.same("p5 close after discard", x.close(), BAD);
        DUE.same("p5 BAD makes no version", x.versions(), 3);
    }

    private static void promise5CloseFull() {
        WeaveStore x = new WeaveStore();
        DUE.same("p5 close without draft", x.close(), BAD);
        for (int v = 1; v <= 11; v++) {
            x.open(v - 1);
            x.put(0, v);
            DUE.same("p5 close number " + v, x.close(), v);
        }
        DUE.same("p5 twelve versions", x.versions(), 12);
        DUE.same("p5 BAD before FULL", x.close(), BAD);
        DUE.same("p5 open(11)", x.open(11), 11);
        DUE.same("p5 open(12)", x.open(12), BAD);
        DUE.same("p5 put(0, 50)", x.put(0, 50), 12);
        DUE.same("p5 close FULL", x.close(), FULL);
        DUE.same("p5 close FULL again", x.close(), FULL);
        DUE.same("p5 the draft stays", x.draft(0), 12);
        DUE.same("p5 its new lines stay new", x.draft(2), 1);
        DUE.same("p5 its lines stay", x.cut(0), 50);
        DUE.same("p5 still twelve versions", x.versions(), 12);
        DUE.same("p5 no version 12", x.length(12), BAD);
        text(x, "p5", 11, 11, 10, 9, 8, 7, 6, 5, 4, 3, 2, 1);
        DUE.same("p5 ancestors(11)", x.ancestors(11), 0xFFF);
        DUE.same("p5 having(11, 10)", x.having(11, 10), 0xFFE);
        DUE.same("p5 having(11, 0)", x.having(11, 0), 0x800);
        DUE.same("p5 discard()", x.discard(), true);
        DUE.same("p5 close after discard", x.close(), BAD);
    }

    private static void promise6Discard() {
        WeaveStore x = branches();
        DUE.same("p6 discard without draft", x.discard(), false);
        x.open(1);
        x.put(0, 1);
        x.cut(3);
        DUE.same("p6 discard()", x.discard(), true);
        DUE.same("p6 discard again", x.discard(), false);
        DUE.same("p6 no draft", x.draft(0), BAD);
        DUE.same("p6 no version made", x.versions(), 5);
        text(x, "p6", 1, 10, 20, 30);
        x.open(0);
        DUE.same("p6 discard of an empty draft", x.discard(), true);
        x.open(1);
        DUE.same("p6 the number is not used up", x.close(), 5);
        DUE.same("p6 discard after close", x.discard(), false);
    }

    private static void promise7Versions() {
        WeaveStore x = new WeaveStore();
        DUE.same("p7 new", x.versions(), 1);
        for (int n = 2; n <= 12; n++) {
            x.open(0);
            DUE.same("p7 an open draft is no version", x.versions(), n - 1);
            x.close();
            DUE.same("p7 after close", x.versions(), n);
        }
        x.open(0);
        x.close();
        DUE.same("p7 never above twelve", x.versions(), 12);
    }

    private static void promise8Length() {
        WeaveStore x = branches();
        int[] lengths = {0, 3, 4, 4, 1};
        for (int v = 0; v < lengths.length; v++) {
            DUE.same("p8 length(" + v + ")", x.length(v), lengths[v]);
        }
        x.open(1);
        x.put(0, 1);
        DUE.same("p8 the draft does not count", x.length(1), 3);
        int[] none = {5, 11, 12, -1, LEAST, MOST};
        for (int v : none) {
            DUE.same("p8 length(" + v + ")", x.length(v), BAD);
        }
    }

    private static void promise9Line() {
        WeaveStore x = branches();
        text(x, "p9", 0);
        text(x, "p9", 1, 10, 20, 30);
        text(x, "p9", 2, 10, 21, 30, 40);
        text(x, "p9", 3, 5, 10, 15, 20);
        text(x, "p9", 4, 10);
        int[] places = {-1, 4, 12, LEAST, MOST};
        for (int i : places) {
            DUE.same("p9 line(2, " + i + ")", x.line(2, i), BAD);
        }
        int[] none = {5, 11, 12, -1, LEAST, MOST};
        for (int v : none) {
            DUE.same("p9 line(" + v + ", 0)", x.line(v, 0), BAD);
        }
    }

    private static void promise10Origin() {
        WeaveStore x = branches();
        int[][] owners = {{}, {1, 1, 1}, {1, 2, 1, 2}, {3, 1, 3, 1}, {4}};
        for (int v = 0; v < owners.length; v++) {
            for (int i = 0; i < owners[v].length; i++) {
                DUE.same("p10 origin(" + v + ", " + i + ")", x.origin(v, i), owners[v][i]);
            }
            DUE.same("p10 origin after the last of " + v, x.origin(v, owners[v].length), BAD);
        }
        int[] wrong = {-1, 12, LEAST, MOST};
        for (int n : wrong) {
            DUE.same("p10 origin(2, " + n + ")", x.origin(2, n), BAD);
            DUE.same("p10 origin(" + n + ", 0)", x.origin(n, 0), BAD);
        }
        DUE.same("p10 origin(5, 0)", x.origin(5, 0), BAD);
        x.open(3);
        x.cut(1);
        x.put(1, 10);
        x.close();
        DUE.same("p10 equal content is another line", x.origin(5, 1), 5);
        DUE.same("p10 the rest belongs where it did", x.origin(5, 3), 1);
    }

    private static void promise11Base() {
        WeaveStore x = branches();
        DUE.same("p11 base(0)", x.base(0), BAD);
        DUE.same("p11 base(1)", x.base(1), 0);
        DUE.same("p11 base(2)", x.base(2), 1);
        DUE.same("p11 base(3)", x.base(3), 1);
        DUE.same("p11 base(4)", x.base(4), 0);
        x.open(3);
        int[] none = {5, 11, 12, -1, LEAST, MOST};
        for (int v : none) {
            DUE.same("p11 base(" + v + ")", x.base(v), BAD);
        }
        x.open(2);
        x.close();
        DUE.same("p11 the version opened last is the base", x.base(5), 2);
    }

    private static void promise12Ancestors() {
        WeaveStore x = branches();
        x.open(3);
        x.close();
        DUE.same("p12 ancestors(0)", x.ancestors(0), 1);
        DUE.same("p12 ancestors(1)", x.ancestors(1), 1 + 2);
        DUE.same("p12 ancestors(2)", x.ancestors(2), 1 + 2 + 4);
        DUE.same("p12 ancestors(3)", x.ancestors(3), 1 + 2 + 8);
        DUE.same("p12 ancestors(4)", x.ancestors(4), 1 + 16);
        DUE.same("p12 ancestors(5)", x.ancestors(5), 1 + 2 + 8 + 32);
        x.open(5);
        int[] none = {6, 11, 12, 32, -1, LEAST, MOST};
        for (int v : none) {
            DUE.same("p12 ancestors(" + v + ")", x.ancestors(v), 0);
        }
    }

    private static void promise13Shared() {
        WeaveStore x = branches();
        int[][] counts = {
            {0, 0, 0, 0, 0},
            {0, 3, 2, 2, 0},
            {0, 2, 4, 1, 0},
            {0, 2, 1, 4, 0},
            {0, 0, 0, 0, 1},
        };
        for (int v = 0; v < counts.length; v++) {
            for (int w = 0; w < counts.length; w++) {
                DUE.same("p13 shared(" + v + ", " + w + ")", x.shared(v, w), counts[v][w]);
            }
        }
        x.open(1);
        int[] none = {5, 11, 12, -1, LEAST, MOST};
        for (int v : none) {
            DUE.same("p13 shared(" + v + ", 1)", x.shared(v, 1), BAD);
            DUE.same("p13 shared(1, " + v + ")", x.shared(1, v), BAD);
            DUE.same("p13 shared(0, " + v + ")", x.shared(0, v), BAD);
            DUE.same("p13 shared of none twice", x.shared(v, v), BAD);
        }
    }

    private static void promise14PlaceIn() {
        WeaveStore x = branches();
        DUE.same("p14 placeIn(1, 0, 2)", x.placeIn(1, 0, 2), 0);
        DUE.same("p14 placeIn(1, 0, 3)", x.placeIn(1, 0, 3), 1);
        DUE.same("p14 placeIn(1, 1, 2)", x.placeIn(1, 1, 2), BAD);
        DUE.same("p14 placeIn(1, 1, 3)", x.placeIn(1, 1, 3), 3);
        DUE.same("p14 placeIn(2, 2, 1)", x.placeIn(2, 2, 1), 2);
        DUE.same("p14 placeIn(2, 2, 3)", x.placeIn(2, 2, 3), BAD);
        DUE.same("p14 placeIn(3, 1, 2)", x.placeIn(3, 1, 2), 0);
        DUE.same("p14 placeIn(2, 3, 2)", x.placeIn(2, 3, 2), 3);
        DUE.same("p14 equal content is no place", x.placeIn(4, 0, 1), BAD);
        DUE.same("p14 placeIn(1, 0, 0)", x.placeIn(1, 0, 0), BAD);
        DUE.same("p14 placeIn(1, 3, 1)", x.placeIn(1, 3, 1), BAD);
        DUE.same("p14 placeIn(0, 0, 0)", x.placeIn(0, 0, 0), BAD);
        x.open(1);
        int[] wrong = {5, 11, 12, -1, LEAST, MOST};
        for (int n : wrong) {
            DUE.same("p14 placeIn(" + n + ", 0, 1)", x.placeIn(n, 0, 1), BAD);
            DUE.same("p14 placeIn(1, " + n + ", 1)", x.placeIn(1, n, 1), BAD);
            DUE.same("p14 placeIn(1, 0, " + n + ")", x.placeIn(1, 0, n), BAD);
        }
    }

    private static void promise15Having() {
        WeaveStore x = branches();
        DUE.same("p15 having(1, 0)", x.having(1, 0), 2 + 4 + 8);
        DUE.same("p15 having(1, 1)", x.having(1, 1), 2 + 8);
        DUE.same("p15 having(1, 2)", x.having(1, 2), 2 + 4);
        DUE.same("p15 having(2, 1)", x.having(2, 1), 4);
        DUE.same("p15 having(3, 3)", x.having(3, 3), 2 + 8);
        DUE.same("p15 equal content is another line", x.having(4, 0), 16);
        x.open(1);
        DUE.same("p15 the draft is no version", x.having(1, 0), 2 + 4 + 8);
        int[] wrong = {5, 11, 12, -1, LEAST, MOST};
        for (int n : wrong) {
            DUE.same("p15 having(" + n + ", 0)", x.having(n, 0), 0);
            DUE.same("p15 having(1, " + n + ")", x.having(1, n), 0);
        }
        DUE.same("p15 having(1, 3)", x.having(1, 3), 0);
        DUE.same("p15 having(0, 0)", x.having(0, 0), 0);
        x.close();
        DUE.same("p15 the closed draft is one", x.having(1, 0), 2 + 4 + 8 + 32);
    }

    private static void promise16Draft() {
        WeaveStore x = branches();
        for (int what = 0; what <= 2; what++) {
            DUE.same("p16 draft(" + what + ") without draft", x.draft(what), BAD);
        }
        x.open(2);
        draftCounts(x, "p16 opened", 4, 0);
        x.put(4, 1);
        x.put(0, 2);
        draftCounts(x, "p16 two put", 4, 2);
        x.cut(0);
        draftCounts(x, "p16 a new one cut", 4, 1);
        x.cut(1);
        draftCounts(x, "p16 an old one cut", 3, 1);
        int[] wrong = {3, -1, LEAST, MOST};
        for (int what : wrong) {
            DUE.same("p16 draft(" + what + ")", x.draft(what), BAD);
        }
        x.close();
        DUE.same("p16 draft(0) after close", x.draft(0), BAD);
        x.open(5);
        draftCounts(x, "p16 what was new is the base's now", 4, 0);
        x.open(0);
        draftCounts(x, "p16 empty", 0, 0);
        x.discard();
        DUE.same("p16 draft(0) after discard", x.draft(0), BAD);
    }

    private static void draftCounts(WeaveStore x, String name, int kept, int fresh) {
        DUE.same(name + " draft(0)", x.draft(0), kept + fresh);
        DUE.same(name + " draft(1)", x.draft(1), kept);
        DUE.same(name + " draft(2)", x.draft(2), fresh);
    }

    private static void versionsNeverChange() {
        WeaveStore x = branches();
        x.open(1);
        x.cut(0);
        x.put(0, 90);
        x.put(3, 91);
        text(x, "terms", 1, 10, 20, 30);
        x.close();
        text(x, "terms", 1, 10, 20, 30);
        text(x, "terms", 2, 10, 21, 30, 40);
        text(x, "terms", 3, 5, 10, 15, 20);
        text(x, "terms", 4, 10);
        text(x, "terms", 5, 90, 20, 30, 91);
        DUE.same("terms version 0 stays empty", x.length(0), 0);
    }
}
