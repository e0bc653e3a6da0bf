import java.util.function.Supplier;

/**
 * All that an object keeps and its calls can show, as a text. Keys, strikes, answers and what was
 * told can only be read by changing them, and an object answers 512 calls: so each part is asked of
 * an object of its own, made anew.
 */
final class State {
    /** The ends of all sets of steps, of all PLAIN answers and of the options lie among these. */
    private static final int[] ANSWERS = {0, 1, 2, 3, 4, 5, 6, 7, 8, 9, 10, 11, 15, 16, 31, 32, 63, 64, 127, 128,
        255, 256, 511, 512, 1023, 1024};

    private final Supplier<ExamScales> maker;
    private final StringBuilder text = new StringBuilder();

    private State(Supplier<ExamScales> maker) {
        this.maker = maker;
    }

    static String of(Supplier<ExamScales> maker) {
        State s = new State(maker);
        ExamScales x = maker.get();
        s.counts(x);
        for (int q = 0; q < x.count(0); q++) {
            s.kind(maker.get(), q);
        }
        s.questions(maker.get());
        s.leaks(maker.get());
        for (int paper = 0; paper < x.count(1); paper++) {
            s.paper(maker.get(), paper);
            s.comesNext(maker.get(), paper);
        }
        for (int pupil = 0; pupil < x.count(2); pupil++) {
            s.pupil(maker.get(), pupil);
        }
        s.text.append("next ").append(maker.get().question(1, 3, 6)).append(' ').append(maker.get().paper());
        return s.text.append('\n').toString();
    }

    private void counts(ExamScales x) {
        text.append("counts");
        for (int what = 0; what <= 5; what++) {
            text.append(' ').append(x.count(what));
        }
        text.append('\n');
    }

    /** Which answers a question takes tells its KIND and its MOST. */
    private void kind(ExamScales x, int q) {
        int pupil = 0;
        while (pupil < x.count(2) && x.mark(pupil, q) < 0) {
            pupil++;
        }
        text.append("question ").append(q).append(':');
        for (int a : ANSWERS) {
            text.append(' ').append(x.answer(pupil, q, a));
        }
        text.append('\n');
    }

    private void questions(ExamScales x) {
        for (int q = 0; q < x.count(0); q++) {
            text.append("easy ").append(x.easy(q, 0)).append('/').append(x.easy(q, 1));
            text.append(" sharp ").append(x.sharp(q)).append(" key ").append(x.key(q, 1));
            text.append(" struck ").append(x.strike(q, 0)).append('\n');
        }
    }

    /** PLACES show in these alone. */
    private void leaks(ExamScales x) {
        text.append("leaks");
        int i = 0;
        for (int leak = x.leak(1, 0); leak >= 0; leak = x.leak(1, i)) {
            text.append(' ').append(leak);
            i++;
        }
        text.append('\n');
    }

    private void paper(ExamScales x, int paper) {
        text.append("paper ").append(paper).append(" cut ").append(x.cut(paper, 0)).append('/').append(x.cut(paper, 1));
        int i = 0;
        for (int q = x.at(paper, 0); q >= 0; q = x.at(paper, i)) {
            text.append(", ").append(q).append(" told");
            for (int j = 0; j < 8; j++) {
                text.append(' ').append(x.judge(j, paper, q, -1));
            }
            i++;
        }
        text.append('\n');
    }

    private void pupil(ExamScales x, int pupil) {
        text.append("pupil ").append(pupil).append(" total ").append(x.total(pupil)).append(':');
        for (int q = 0; q < x.count(0); q++) {
            if (x.mark(pupil, q) >= 0) {
                text.append(' ').append(q).append('=').append(x.gap(pupil, q));
            }
        }
        text.append('\n');
    }

    /** What would be made next in a paper, and that nothing lies in wait there. */
    private void comesNext(ExamScales x, int paper) {
        int q = x.question(1, 3, 6);
        text.append("next in ").append(paper).append(": question ").append(q).append(" at ").append(x.put(paper, q));
        text.append(" told");
        for (int j = 0; j < 8; j++) {
            text.append(' ').append(x.judge(j, paper, q, -1));
        }
        int pupil = x.pupil(paper, 3);
        text.append(", pupil ").append(pupil).append(" comes to");
        for (int i = 0; i < 12; i++) {
            text.append(' ').append(x.come(pupil, x.at(paper, i)));
        }
        text.append(", marked ").append(x.answer(pupil, q, 1)).append(" of ").append(x.total(pupil)).append('\n');
    }
}
