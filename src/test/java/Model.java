import java.math.BigInteger;
import java.util.ArrayList;
import java.util.HashMap;
import java.util.List;
import java.util.Map;
import java.util.TreeSet;

/** The document once more, written slowly: fractions of any size, a map for each thing that is told. */
final class Model {
    private static final int NONE = -1, BAD = -2, STATE = -3, FULL = -4;
    private static final long NO = Long.MIN_VALUE;

    private static final class Question {
        int kind, most, key;
        boolean struck;

        boolean counts() {
            return kind != 3 && !struck;
        }

        boolean takes(int a) {
            return a >= 0 && (kind == 1 ? a <= 7 : kind == 2 ? a < Math.pow(2, most) : a <= most);
        }

        int worth(Integer a) {
            if (a == null) {
                return 0;
            }
            if (kind == 1) {
                return (key & (1 << a)) != 0 ? most : 0;
            }
            if (kind == 2) {
                String upwards = new StringBuilder(Integer.toBinaryString(a)).reverse() + "0";
                return upwards.indexOf('0');
            }
            return a;
        }
    }

    private static final class Pupil {
        int paper, place;
        final Map<Integer, Integer> answers = new HashMap<>();
    }

    private static final class Fraction {
        static final Fraction ZERO = of(0);
        final BigInteger above, below;

        Fraction(BigInteger a, BigInteger b) {
            BigInteger d = a.gcd(b).multiply(BigInteger.valueOf(b.signum()));
            above = a.divide(d);
            below = b.divide(d);
        }

        static Fraction of(long a, long b) {
            return new Fraction(BigInteger.valueOf(a), BigInteger.valueOf(b));
        }

        static Fraction of(long a) {
            return of(a, 1);
        }

        Fraction plus(Fraction o) {
            return new Fraction(above.multiply(o.below).add(o.above.multiply(below)), below.multiply(o.below));
        }

        Fraction less(Fraction o) {
            return plus(new Fraction(o.above.negate(), o.below));
        }

        Fraction times(Fraction o) {
            return new Fraction(above.multiply(o.above), below.multiply(o.below));
        }

        Fraction by(Fraction o) {
            return new Fraction(above.multiply(o.below), below.multiply(o.above));
        }

        Fraction abs() {
            return new Fraction(above.abs(), below);
        }

        int compare(Fraction o) {
            return less(o).above.signum();
        }

        long part(int what) {
            return what == 0 ? above.longValueExact() : what == 1 ? below.longValueExact() : NO;
        }
    }

    private final List<Question> questions = new ArrayList<>();
    private final List<List<Integer>> papers = new ArrayList<>();
    private final List<Pupil> pupils = new ArrayList<>();
    private final Map<String, Integer> told = new HashMap<>();

    private static boolean has(List<?> list, int i) {
        return i >= 0 && i < list.size();
    }

    private boolean asks(int pupil, int q) {
        return has(pupils, pupil) && papers.get(pupils.get(pupil).paper).contains(q);
    }

    int question(int kind, int most, int key) {
        if (kind < 0 || kind > 3 || most < 1 || most > 10) {
            return BAD;
        }
        if (kind == 1 && (key < 1 || key > 255) || kind != 1 && key != 0) {
            return BAD;
        }
        if (questions.size() == 30) {
            return FULL;
        }
        Question q = new Question();
        q.kind = kind;
        q.most = most;
        q.key = key;
        questions.add(q);
        return questions.size() - 1;
    }

    int key(int q, int key) {
        if (!has(questions, q)) {
            return NONE;
        }
        if (key < 1 || key > 255) {
            return BAD;
        }
        if (questions.get(q).kind != 1) {
            return STATE;
        }
        int was = questions.get(q).key;
        questions.get(q).key = key;
        return was;
    }

    int strike(int q, int is) {
        if (!has(questions, q)) {
            return NONE;
        }
        if (is < 0 || is > 1) {
            return BAD;
        }
        boolean was = questions.get(q).struck;
        questions.get(q).struck = is == 1;
        return was ? 1 : 0;
    }

    int paper() {
        if (papers.size() == 8) {
            return FULL;
        }
        papers.add(new ArrayList<>());
        return papers.size() - 1;
    }

    int put(int paper, int q) {
        if (!has(papers, paper) || !has(questions, q)) {
            return NONE;
        }
        if (papers.get(paper).contains(q) || !group(paper).isEmpty()) {
            return STATE;
        }
        if (papers.get(paper).size() == 12) {
            return FULL;
        }
        papers.get(paper).add(q);
        return papers.get(paper).size() - 1;
    }

    int at(int paper, int i) {
        return has(papers, paper) && has(papers.get(paper), i) ? papers.get(paper).get(i) : NONE;
    }

    int pupil(int paper, int place) {
        if (!has(papers, paper) || place < 0 || place > 3) {
            return NONE;
        }
        if (pupils.size() == 60) {
            return FULL;
        }
        Pupil p = new Pupil();
        p.paper = paper;
        p.place = place;
        pupils.add(p);
        return pupils.size() - 1;
    }

    int answer(int pupil, int q, int a) {
        if (!asks(pupil, q)) {
            return NONE;
        }
        if (!questions.get(q).takes(a)) {
            return BAD;
        }
        pupils.get(pupil).answers.put(q, a);
        return questions.get(q).worth(a);
    }

    int gap(int pupil, int q) {
        Integer was = asks(pupil, q) ? pupils.get(pupil).answers.remove(q) : null;
        return was == null ? NONE : was;
    }

    int row(int pupil, long w) {
        if (!has(pupils, pupil)) {
            return NONE;
        }
        byte[] tape = java.nio.ByteBuffer.allocate(8).putLong(w).array();
        int taken = 0;
        for (int q : papers.get(pupils.get(pupil).paper)) {
            if (taken == 8 || Byte.toUnsignedInt(tape[taken]) == 254) {
                break;
            }
            int next = Byte.toUnsignedInt(tape[taken]);
            if (next == 255) {
                gap(pupil, q);
            } else if (answer(pupil, q, next) == BAD) {
                break;
            }
            taken++;
        }
        return taken;
    }

    int mark(int pupil, int q) {
        return asks(pupil, q) ? questions.get(q).worth(pupils.get(pupil).answers.get(q)) : NONE;
    }

    int come(int pupil, int q) {
        if (!asks(pupil, q)) {
            return NONE;
        }
        List<Integer> row = papers.get(pupils.get(pupil).paper);
        for (int ahead : row.subList(row.indexOf(q), row.size())) {
            if (pupils.get(pupil).answers.containsKey(ahead)) {
                return 1;
            }
        }
        return 0;
    }

    int total(int pupil) {
        if (!has(pupils, pupil)) {
            return NONE;
        }
        int sum = 0;
        for (int q : papers.get(pupils.get(pupil).paper)) {
            sum += questions.get(q).counts() ? mark(pupil, q) : 0;
        }
        return sum;
    }

    private List<Integer> comers(int q) {
        List<Integer> found = new ArrayList<>();
        for (int pupil = 0; pupil < pupils.size(); pupil++) {
            if (come(pupil, q) == 1) {
                found.add(pupil);
            }
        }
        return found;
    }

    long easy(int q, int what) {
        if (!has(questions, q)) {
            return NO;
        }
        int sum = 0, most = 0;
        for (int pupil : comers(q)) {
            sum += mark(pupil, q);
            most += questions.get(q).most;
        }
        return most == 0 ? Fraction.ZERO.part(what) : Fraction.of(sum, most).part(what);
    }

    long sharp(int q) {
        if (!has(questions, q)) {
            return NO;
        }
        long twice = 0;
        // the sum over all pairs of the products of differences is what SHARP tells
        for (int a : comers(q)) {
            for (int b : comers(q)) {
                twice += (long) (mark(a, q) - mark(b, q)) * (rest(a, q) - rest(b, q));
            }
        }
        return twice / 2;
    }

    private int rest(int pupil, int q) {
        return total(pupil) - (questions.get(q).counts() ? mark(pupil, q) : 0);
    }

    int leaky(int q, int place, int bar) {
        if (!has(questions, q) || place < 0 || place > 3) {
            return NONE;
        }
        if (bar < 1 || bar > 100) {
            return BAD;
        }
        int[] all = new int[2], full = new int[2];
        for (int pupil : comers(q)) {
            int side = pupils.get(pupil).place == place ? 0 : 1;
            all[side]++;
            full[side] += mark(pupil, q) == questions.get(q).most ? 1 : 0;
        }
        if (all[0] == 0 || all[1] == 0) {
            return 0;
        }
        Fraction above = Fraction.of(full[0], all[0]).less(Fraction.of(full[1], all[1]));
        return above.compare(Fraction.of(bar, 100)) > 0 ? 1 : 0;
    }

    int leak(int bar, int i) {
        if (i < 0) {
            return NONE;
        }
        if (bar < 1 || bar > 100) {
            return BAD;
        }
        List<Integer> found = new ArrayList<>();
        for (int n = 0; n < 4 * questions.size(); n++) {
            if (leaky(n / 4, n % 4, bar) == 1) {
                found.add(n);
            }
        }
        return has(found, i) ? found.get(i) : NONE;
    }

    private List<Integer> sharedOf(int p, int q) {
        List<Integer> both = new ArrayList<>(papers.get(p));
        both.retainAll(papers.get(q));
        both.removeIf(n -> !questions.get(n).counts());
        return both;
    }

    int shared(int p, int q) {
        if (!has(papers, p) || !has(papers, q)) {
            return NONE;
        }
        return p == q ? BAD : sharedOf(p, q).size();
    }

    int sum(int pupil, int q) {
        if (!has(pupils, pupil) || !has(papers, q)) {
            return NONE;
        }
        if (pupils.get(pupil).paper == q) {
            return BAD;
        }
        int sum = 0;
        for (int n : sharedOf(pupils.get(pupil).paper, q)) {
            sum += mark(pupil, n);
        }
        return sum;
    }

    private List<Integer> group(int paper) {
        List<Integer> found = new ArrayList<>();
        for (int pupil = 0; pupil < pupils.size(); pupil++) {
            if (pupils.get(pupil).paper == paper) {
                found.add(pupil);
            }
        }
        return found;
    }

    private List<Integer> values(int p, int q) {
        List<Integer> found = new ArrayList<>();
        for (int pupil : group(p)) {
            found.add(p == q ? total(pupil) : sum(pupil, q));
        }
        return found;
    }

    private static long sumOf(List<Integer> values) {
        long sum = 0;
        for (int v : values) {
            sum += v;
        }
        return sum;
    }

    private static long awayOf(List<Integer> values) {
        long away = 0;
        for (int v : values) {
            away += Math.abs((long) values.size() * v - sumOf(values));
        }
        return away;
    }

    private static Fraction mean(List<Integer> values) {
        return Fraction.of(sumOf(values), values.size());
    }

    private static Fraction distance(List<Integer> values) {
        return Fraction.of(awayOf(values), (long) values.size() * values.size());
    }

    long group(int p, int q, int what) {
        if (!has(papers, p) || !has(papers, q) || what < 0 || what > 2) {
            return NO;
        }
        List<Integer> values = values(p, q);
        return what == 0 ? values.size() : what == 1 ? sumOf(values) : awayOf(values);
    }

    long scale(int p, int q, int t, int what) {
        if (!has(papers, p) || !has(papers, q) || p == q || t < 0 || t > 120 || what < 0 || what > 1) {
            return NO;
        }
        if (group(p).isEmpty() || group(q).isEmpty() || sharedOf(p, q).isEmpty()) {
            return NO;
        }
        List<Integer> totalsP = values(p, p), sharedP = values(p, q);
        List<Integer> totalsQ = values(q, q), sharedQ = values(q, p);
        if (awayOf(totalsP) == 0 || awayOf(sharedQ) == 0) {
            return NO;
        }
        Fraction s = mean(sharedP).plus(
                Fraction.of(t).less(mean(totalsP)).times(distance(sharedP)).by(distance(totalsP)));
        return mean(totalsQ).plus(
                s.less(mean(sharedQ)).times(distance(totalsQ)).by(distance(sharedQ))).part(what);
    }

    int rank(int paper, int v) {
        if (!has(papers, paper) || group(paper).isEmpty()) {
            return NONE;
        }
        int rank = 0;
        for (int total : values(paper, paper)) {
            rank += total < v ? 2 : total == v ? 1 : 0;
        }
        return rank;
    }

    int like(int p, int q, int t) {
        if (!has(papers, p) || !has(papers, q) || t < 0 || t > 120) {
            return NONE;
        }
        if (group(p).isEmpty() || group(q).isEmpty()) {
            return NONE;
        }
        TreeSet<Integer> upwards = new TreeSet<>(values(q, q));
        for (int v : upwards) {
            if (rank(q, v) * group(p).size() >= rank(p, t) * group(q).size()) {
                return v;
            }
        }
        return upwards.last();
    }

    int judge(int j, int paper, int q, int v) {
        if (j < 0 || j > 7 || !has(papers, paper) || !papers.get(paper).contains(q)) {
            return NONE;
        }
        if (v < -1 || v > questions.get(q).most) {
            return BAD;
        }
        String name = j + " " + paper + " " + q;
        Integer was = v == -1 ? told.remove(name) : told.put(name, v);
        return was == null ? NONE : was;
    }

    private Fraction cutOf(int paper) {
        Fraction cut = Fraction.ZERO;
        for (int q : papers.get(paper)) {
            List<Integer> words = new ArrayList<>();
            for (int j = 0; j < 8; j++) {
                Integer v = told.get(j + " " + paper + " " + q);
                if (v != null) {
                    words.add(v);
                }
            }
            if (questions.get(q).counts() && !words.isEmpty()) {
                cut = cut.plus(mean(words));
            }
        }
        return cut;
    }

    long cut(int paper, int what) {
        return has(papers, paper) ? cutOf(paper).part(what) : NO;
    }

    int passes(int pupil) {
        if (!has(pupils, pupil)) {
            return NONE;
        }
        return Fraction.of(total(pupil)).compare(cutOf(pupils.get(pupil).paper)) >= 0 ? 1 : 0;
    }

    int border(int paper, int d) {
        if (!has(papers, paper)) {
            return NONE;
        }
        if (d < 0) {
            return BAD;
        }
        int found = 0;
        for (int pupil : group(paper)) {
            Fraction far = Fraction.of(total(pupil)).less(cutOf(paper)).abs();
            found += far.compare(Fraction.of(d)) <= 0 ? 1 : 0;
        }
        return found;
    }

    int alike(int a, int b) {
        if (!has(pupils, a) || !has(pupils, b)) {
            return NONE;
        }
        if (a == b || pupils.get(a).paper != pupils.get(b).paper) {
            return BAD;
        }
        int same = 0;
        for (Map.Entry<Integer, Integer> e : pupils.get(a).answers.entrySet()) {
            boolean wrong = mark(a, e.getKey()) < questions.get(e.getKey()).most;
            same += wrong && e.getValue().equals(pupils.get(b).answers.get(e.getKey())) ? 1 : 0;
        }
        return same;
    }

    int pair(int paper, int m, int i) {
        if (!has(papers, paper) || i < 0) {
            return NONE;
        }
        if (m < 1) {
            return BAD;
        }
        TreeSet<Integer> found = new TreeSet<>();
        for (int a : group(paper)) {
            for (int b : group(paper)) {
                if (a < b && alike(a, b) >= m) {
                    found.add(64 * a + b);
                }
            }
        }
        return has(new ArrayList<>(found), i) ? new ArrayList<>(found).get(i) : NONE;
    }

    int count(int what) {
        int n = 0;
        switch (what) {
            case 0:
                return questions.size();
            case 1:
                return papers.size();
            case 2:
                return pupils.size();
            case 3:
                for (Pupil p : pupils) {
                    n += p.answers.size();
                }
                return n;
            case 4:
                for (Question q : questions) {
                    n += q.struck ? 1 : 0;
                }
                return n;
            case 5:
                for (int pupil = 0; pupil < pupils.size(); pupil++) {
                    n += passes(pupil);
                }
                return n;
            default:
                return NONE;
        }
    }
}
