import java.util.ArrayList;
import java.util.List;

/** What the document says, written plainly over Java lists, to compare the class with. */
final class Model {
    /** A line is the object itself: equal content does not make it the same line. */
    private static final class Line {
        final int content;
        int owner = -1;

        Line(int content) {
            this.content = content;
        }
    }

    final List<List<Line>> texts = new ArrayList<>();
    final List<Integer> bases = new ArrayList<>();
    List<Line> draft = null;
    int opened = -1;
    int putsClosed = 0;
    int putsOpen = 0;

    Model() {
        texts.add(new ArrayList<>());
        bases.add(-1);
    }

    boolean has(int v) {
        return v >= 0 && v < texts.size();
    }

    Line at(int v, int i) {
        return has(v) && i >= 0 && i < texts.get(v).size() ? texts.get(v).get(i) : null;
    }

    int open(int v) {
        if (!has(v)) {
            return -1;
        }
        draft = new ArrayList<>(texts.get(v));
        opened = v;
        putsOpen = 0;
        return draft.size();
    }

    int put(int i, int content) {
        if (draft == null || content < 0 || content > 99 || i < 0 || i > draft.size()) {
            return -1;
        }
        if (draft.size() == 12 || putsClosed + putsOpen == 30) {
            return -2;
        }
        draft.add(i, new Line(content));
        putsOpen++;
        return draft.size();
    }

    int cut(int i) {
        return draft == null || i < 0 || i >= draft.size() ? -1 : draft.remove(i).content;
    }

    int close() {
        if (draft == null) {
            return -1;
        }
        if (texts.size() == 12) {
            return -2;
        }
        int made = texts.size();
        for (Line line : draft) {
            if (line.owner < 0) {
                line.owner = made;
            }
        }
        texts.add(draft);
        bases.add(opened);
        putsClosed += putsOpen;
        draft = null;
        return made;
    }

    boolean discard() {
        boolean was = draft != null;
        draft = null;
        return was;
    }

    int versions() {
        return texts.size();
    }

    int length(int v) {
        return has(v) ? texts.get(v).size() : -1;
    }

    int line(int v, int i) {
        Line line = at(v, i);
        return line == null ? -1 : line.content;
    }

    int origin(int v, int i) {
        Line line = at(v, i);
        return line == null ? -1 : line.owner;
    }

    int base(int v) {
        return has(v) ? bases.get(v) : -1;
    }

    int ancestors(int v) {
        int bits = 0;
        for (int w = v; has(w); w = bases.get(w)) {
            bits |= 1 << w;
        }
        return bits;
    }

    int shared(int v, int w) {
        if (!has(v) || !has(w)) {
            return -1;
        }
        List<Line> both = new ArrayList<>(texts.get(v));
        both.retainAll(texts.get(w));
        return both.size();
    }

    int placeIn(int v, int i, int w) {
        Line line = at(v, i);
        return line == null || !has(w) ? -1 : texts.get(w).indexOf(line);
    }

    int having(int v, int i) {
        Line line = at(v, i);
        int bits = 0;
        for (int w = 0; line != null && w < texts.size(); w++) {
            if (texts.get(w).contains(line)) {
                bits |= 1 << w;
            }
        }
        return bits;
    }

    int draft(int what) {
        if (draft == null || what < 0 || what > 2) {
            return -1;
        }
        int fresh = 0;
        for (Line line : draft) {
            fresh += line.owner < 0 ? 1 : 0;
        }
        return what == 0 ? draft.size() : what == 1 ? draft.size() - fresh : fresh;
    }
}
