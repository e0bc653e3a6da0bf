/**
 * All that an object keeps and its calls can show, as a text. Keys, strikes, answers and what was
 * told can only be read by changing them, so each is put back at once.
 */
final class State {
    private State() {
    }

    static String of(ExamScales x) {
        StringBuilder s = new StringBuilder();
        for (int what = 0; what <= 5; what++) {
            s.append(x.count(what)).append(' ');
        }
        questions(x, s.append("\nquestions "));
        papers(x, s.append("\npapers "));
        pupils(x, s.append("\npupils "));
        return s.append('\n').toString();
    }

    private static void questions(ExamScales x, StringBuilder s) {
        for (int q = 0; q < x.count(0); q++) {
            int key = x.key(q, 1);
            if (key > 0) {
                x.key(q, key);
            }
            int struck = x.strike(q, 0);
            x.strike(q, struck);
            s.append(key).append(struck == 1 ? "s " : " ");
        }
    }

    private static void papers(ExamScales x, StringBuilder s) {
        for (int paper = 0; paper < x.count(1); paper++) {
            s.append('[');
            int q = x.at(paper, 0);
            for (int i = 0; q >= 0; i++, q = x.at(paper, i)) {
                s.append(q).append(':');
                for (int j = 0; j < 8; j++) {
                    int told = x.judge(j, paper, q, -1);
                    x.judge(j, paper, q, told);
                    s.append(told).append(',');
                }
            }
            s.append("] ");
        }
    }

    private static void pupils(ExamScales x, StringBuilder s) {
        for (int pupil = 0; pupil < x.count(2); pupil++) {
            s.append('(').append(x.total(pupil)).append(':');
            for (int q = 0; q < x.count(0); q++) {
                if (x.mark(pupil, q) >= 0) {
                    int answer = x.gap(pupil, q);
                    if (answer >= 0) {
                        x.answer(pupil, q, answer);
                    }
                    s.append(q).append('=').append(answer).append(' ');
                }
            }
            s.append(") ");
        }
    }
}
