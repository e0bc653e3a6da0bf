import java.util.List;
import java.util.function.ToIntFunction;
import java.util.function.ToLongFunction;

/** Promises 1 to 7. */
public final class QuestionsAndPapersTest {
    private static final int NONE = ExamScales.NONE, BAD = ExamScales.BAD;
    private static final int STATE = ExamScales.STATE, FULL = ExamScales.FULL;
    private static final int MIN = Integer.MIN_VALUE, MAX = Integer.MAX_VALUE;
    private static final Due due = new Due();

    public static void main(String[] args) {
        newObject();
        nothingIsThere();
        question();
        questionRefused();
        key();
        strike();
        paper();
        put();
        putRefused();
        at();
        due.end();
    }

    private static void newObject() {
        ExamScales x = new ExamScales();
        for (int what = 0; what <= 5; what++) {
            due.is("1: count(" + what + ") of a new object", x.count(what), 0);
        }
        ExamScales other = new ExamScales();
        x.question(0, 1, 0);
        x.paper();
        due.is("1: objects share no questions", other.count(0), 0);
        due.is("1: objects share no papers", other.count(1), 0);
    }

    /** "Nothing is there.": no call finds a question, a paper, a pupil, a leak or two that are alike. */
    private static void nothingIsThere() {
        List<ToIntFunction<ExamScales>> none = List.of(x -> x.key(0, 1), x -> x.strike(0, 1), x -> x.put(0, 0),
                x -> x.at(0, 0), x -> x.pupil(0, 0), x -> x.answer(0, 0, 0), x -> x.gap(0, 0), x -> x.row(0, 0L),
                x -> x.mark(0, 0), x -> x.come(0, 0), x -> x.total(0), x -> x.leaky(0, 0, 1), x -> x.leak(1, 0),
                x -> x.shared(0, 1), x -> x.sum(0, 0), x -> x.rank(0, 0), x -> x.like(0, 1, 0),
                x -> x.judge(0, 0, 0, 0), x -> x.passes(0), x -> x.border(0, 0), x -> x.alike(0, 1),
                x -> x.pair(0, 1, 0));
        for (int i = 0; i < none.size(); i++) {
            due.refused("1: nothing for call " + i, ExamScales::new, none.get(i)::applyAsInt, NONE);
        }
        List<ToLongFunction<ExamScales>> no = List.of(x -> x.easy(0, 0), x -> x.sharp(0), x -> x.group(0, 0, 0),
                x -> x.scale(0, 1, 0, 0), x -> x.cut(0, 0));
        for (int i = 0; i < no.size(); i++) {
            due.refused("1: no number for call " + i, ExamScales::new, no.get(i), ExamScales.NO);
        }
        due.is("1: the first question", new ExamScales().question(0, 1, 0), 0);
        due.is("1: the first paper", new ExamScales().paper(), 0);
    }

    private static void question() {
        ExamScales x = new ExamScales();
        due.is("2: PLAIN, least MOST", x.question(0, 1, 0), 0);
        due.is("2: PLAIN, greatest MOST", x.question(0, 10, 0), 1);
        due.is("2: CHOICE, least KEY", x.question(1, 1, 1), 2);
        due.is("2: CHOICE, greatest KEY", x.question(1, 10, 255), 3);
        due.is("2: STEPS, least", x.question(2, 1, 0), 4);
        due.is("2: STEPS, greatest", x.question(2, 10, 0), 5);
        due.is("2: TRIAL, least", x.question(3, 1, 0), 6);
        due.is("2: TRIAL, greatest", x.question(3, 10, 0), 7);
        for (int q = 8; q < 30; q++) {
            due.is("2: question " + q, x.question(0, 3, 0), q);
        }
        due.is("2: all 30 are there", x.count(0), 30);
    }

    private static void questionRefused() {
        for (int kind : new int[] {-1, 4, MIN, MAX}) {
            due.refused("2: kind " + kind, School::judged, x -> x.question(kind, 3, 0), BAD);
        }
        for (int most : new int[] {0, -1, 11, MIN, MAX}) {
            due.refused("2: most " + most, School::judged, x -> x.question(0, most, 0), BAD);
            due.refused("2: CHOICE, most " + most, School::judged, x -> x.question(1, most, 1), BAD);
        }
        for (int key : new int[] {0, -1, 256, MIN, MAX}) {
            due.refused("2: CHOICE, key " + key, School::judged, x -> x.question(1, 3, key), BAD);
        }
        for (int kind : new int[] {0, 2, 3}) {
            for (int key : new int[] {1, -1, 255, MIN}) {
                due.refused("2: kind " + kind + ", key " + key, School::judged, x -> x.question(kind, 3, key), BAD);
            }
        }
        due.refused("2: the 31st", () -> School.plain(30, 0), x -> x.question(0, 3, 0), FULL);
        int[][] bad = {{4, 3, 0}, {-1, 3, 0}, {0, 11, 0}, {0, 0, 0}, {1, 3, 0}, {1, 3, 256}, {0, 3, 1}, {3, 3, 1}};
        for (int[] b : bad) {
            due.refused("2: BAD ahead of FULL, " + b[0] + " " + b[1] + " " + b[2], () -> School.plain(30, 0),
                    x -> x.question(b[0], b[1], b[2]), BAD);
        }
    }

    private static void key() {
        ExamScales x = School.pupils();
        due.is("3: option 1 is of the KEY", x.answer(0, 1, 1), 3);
        due.is("3: what it was", x.key(1, 129), 6);
        due.is("3: the mark follows", x.mark(0, 1), 0);
        due.is("3: option 0 is of it now", x.answer(0, 1, 0), 3);
        due.is("3: option 7 is of it now", x.answer(0, 1, 7), 3);
        due.is("3: what it was, again", x.key(1, 255), 129);
        due.is("3: the greatest KEY", x.key(1, 1), 255);
        due.is("3: the least KEY", x.key(1, 2), 1);
        for (int q : new int[] {-1, 5, 30, MIN, MAX}) {
            due.refused("3: no question " + q, School::judged, y -> y.key(q, 1), NONE);
            due.refused("3: NONE ahead of BAD", School::judged, y -> y.key(q, 0), NONE);
        }
        for (int key : new int[] {0, -1, 256, MIN, MAX}) {
            due.refused("3: key " + key, School::judged, y -> y.key(1, key), BAD);
            due.refused("3: BAD ahead of STATE, key " + key, School::judged, y -> y.key(0, key), BAD);
        }
        for (int q : new int[] {0, 2, 3, 4}) {
            due.refused("3: no CHOICE " + q, School::judged, y -> y.key(q, 1), STATE);
        }
    }

    private static void strike() {
        ExamScales x = School.judged();
        due.is("4: not STRUCK at first", x.strike(0, 1), 0);
        due.is("4: it does not count", x.total(0), 4);
        due.is("4: its MARK stays", x.mark(0, 0), 4);
        due.is("4: STRUCK already", x.strike(0, 1), 1);
        due.is("4: a second one", x.strike(4, 1), 0);
        due.is("4: two are", x.count(4), 2);
        due.is("4: not any more", x.strike(0, 0), 1);
        due.is("4: the other one still is", x.total(0), 7);
        due.is("4: was not", x.strike(0, 0), 0);
        due.is("4: a TRIAL", x.strike(3, 1), 0);
        due.is("4: a TRIAL not STRUCK does not count", x.strike(3, 0), 1);
        due.is("4: neither way", x.total(2), 8);
        ExamScales full = School.plain(30, 0);
        due.is("4: the last question", full.strike(29, 1), 0);
        due.is("4: the last question was", full.strike(29, 0), 1);
        for (int q : new int[] {-1, 5, 30, 32, MIN, MAX}) {
            due.refused("4: no question " + q, School::judged, y -> y.strike(q, 1), NONE);
            due.refused("4: NONE ahead of BAD", School::judged, y -> y.strike(q, 2), NONE);
        }
        for (int is : new int[] {-1, 2, MIN, MAX}) {
            due.refused("4: is " + is, School::judged, y -> y.strike(0, is), BAD);
            due.refused("4: is " + is + ", of a STRUCK one", QuestionsAndPapersTest::struck, y -> y.strike(0, is), BAD);
        }
    }

    private static ExamScales struck() {
        ExamScales x = School.judged();
        x.strike(0, 1);
        return x;
    }

    private static void paper() {
        ExamScales x = new ExamScales();
        for (int paper = 0; paper < 8; paper++) {
            due.is("5: paper " + paper, x.paper(), paper);
            due.is("5: it has no questions", x.at(paper, 0), NONE);
        }
        due.refused("5: the ninth", () -> School.plain(1, 8), ExamScales::paper, FULL);
    }

    private static void put() {
        ExamScales x = School.questions();
        x.paper();
        x.paper();
        due.is("6: the first one", x.put(0, 4), 0);
        due.is("6: behind it", x.put(0, 2), 1);
        due.is("6: in another paper, too", x.put(1, 4), 0);
        x.pupil(1, 0);
        due.is("6: another paper's pupil is no hindrance", x.put(0, 0), 2);
        due.is("6: it is where it was put", x.at(0, 2), 0);
        ExamScales wide = School.plain(12, 0);
        wide.paper();
        for (int q = 0; q < 12; q++) {
            due.is("6: question " + q, wide.put(0, 11 - q), q);
        }
    }

    private static void putRefused() {
        for (int paper : new int[] {-1, 2, 8, MIN, MAX}) {
            due.refused("6: no paper " + paper, School::papers, x -> x.put(paper, 2), NONE);
        }
        for (int q : new int[] {-1, 5, 30, 32, MIN, MAX}) {
            due.refused("6: no question " + q, School::papers, x -> x.put(0, q), NONE);
            due.refused("6: NONE ahead of STATE", School::pupils, x -> x.put(0, q), NONE);
        }
        due.refused("6: it is in it", School::papers, x -> x.put(0, 0), STATE);
        due.refused("6: it is last in it", School::papers, x -> x.put(0, 4), STATE);
        due.refused("6: there is a pupil", School::pupils, x -> x.put(0, 2), STATE);
        due.refused("6: the 13th", QuestionsAndPapersTest::fullPaper, x -> x.put(0, 12), FULL);
        due.refused("6: STATE ahead of FULL", QuestionsAndPapersTest::fullPaper, x -> x.put(0, 3), STATE);
        for (int q : new int[] {-1, 13, 30, MIN, MAX}) {
            due.refused("6: NONE ahead of FULL, " + q, QuestionsAndPapersTest::fullPaper, x -> x.put(0, q), NONE);
        }
        due.refused("6: it is in it, and there is a pupil", School::pupils, x -> x.put(0, 0), STATE);
        due.refused("6: a pupil of a paper without questions", QuestionsAndPapersTest::pupilOfNothing,
                x -> x.put(0, 0), STATE);
        due.refused("6: a pupil ahead of FULL", () -> withPupil(fullPaper()), x -> x.put(0, 12), STATE);
    }

    private static ExamScales pupilOfNothing() {
        ExamScales x = School.plain(1, 0);
        x.paper();
        x.pupil(0, 0);
        return x;
    }

    private static ExamScales fullPaper() {
        ExamScales x = School.plain(12, 1);
        x.question(0, 10, 0);
        return x;
    }

    private static ExamScales withPupil(ExamScales x) {
        x.pupil(0, 0);
        return x;
    }

    private static void at() {
        ExamScales x = School.papers();
        due.is("7: first", x.at(0, 0), 0);
        due.is("7: third", x.at(0, 2), 3);
        due.is("7: last", x.at(0, 3), 4);
        due.is("7: of the other one", x.at(1, 0), 2);
        for (int i : new int[] {-1, 4, 12, MIN, MAX}) {
            due.refused("7: no place " + i, School::papers, y -> y.at(0, i), NONE);
        }
        ExamScales empty = new ExamScales();
        empty.paper();
        due.is("7: of a paper without questions", empty.at(0, 0), NONE);
        for (int i : new int[] {-1, 12, 13, MIN, MAX}) {
            due.refused("7: no place " + i + " of a full one", QuestionsAndPapersTest::fullPaper, y -> y.at(0, i), NONE);
        }
        due.is("7: the last place of a full one", fullPaper().at(0, 11), 11);
        due.refused("7: behind the shorter one", School::papers, y -> y.at(1, 3), NONE);
        for (int paper : new int[] {-1, 2, 8, MIN, MAX}) {
            due.refused("7: no paper " + paper, School::papers, y -> y.at(paper, 0), NONE);
        }
    }
}
