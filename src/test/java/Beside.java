import java.util.ArrayList;
import java.util.List;
import java.util.NoSuchElementException;
import java.util.function.Supplier;

/** Objects that are to be in the same state: each is asked all that there is to ask, one beside the other. */
final class Beside {
    static final int THROWN = -99;
    /** So many questions an object: with what makes it, far fewer than 512 calls. */
    private static final int AT_ONCE = 120;

    interface Ask {
        long of(ReasonCloser x);
    }

    interface OfTwo {
        int of(ReasonCloser x, int t, int u);
    }

    private static final class Question {
        final String call;
        final Ask ask;

        Question(String call, Ask ask) {
            this.call = call;
            this.ask = ask;
        }
    }

    private final Due due;
    private final List<Question> questions = new ArrayList<>();

    /** The questions that can be asked of objects like a sample. */
    Beside(Due due, Supplier<ReasonCloser> sample) {
        this.due = due;
        ReasonCloser x = sample.get();
        askOfAll(x.about(0), x.about(1));
        askOfFacts(x.about(2), x.about(3), x.about(6));
        askOfTwo(x.about(1), x.about(2));
        askOnPaper(x.about(1), x.about(2));
    }

    /** All answers are alike; TROUBLE, where() are not asked, and THE TAPE, fault() only on demand. */
    void same(String what, Supplier<ReasonCloser> one, Supplier<ReasonCloser> other, boolean tapeToo) {
        sameFacts(what, one, other);
        due.is(what + ", then about(5)", one.get().about(5), other.get().about(5));
        due.is(what + ", then what undo() brings back", undone(one.get()), undone(other.get()));
        if (tapeToo) {
            due.is(what + ", then fault()", one.get().fault(), other.get().fault());
            due.is(what + ", then THE TAPE", onTape(one.get()), onTape(other.get()));
        }
    }

    /** All answers are alike that don't tell which facts came by acts. */
    void sameFacts(String what, Supplier<ReasonCloser> one, Supplier<ReasonCloser> other) {
        for (int at = 0; at < questions.size(); at += AT_ONCE) {
            ReasonCloser x = one.get();
            ReasonCloser y = other.get();
            for (Question question : questions.subList(at, Math.min(questions.size(), at + AT_ONCE))) {
                due.is(what + ", then " + question.call, question.ask.of(x), question.ask.of(y));
            }
        }
    }

    static int named(ReasonCloser x, int n) {
        try {
            return x.named(n);
        } catch (NoSuchElementException none) {
            return THROWN;
        }
    }

    private static long undone(ReasonCloser x) {
        long told = 0;
        for (int k = 0; k < 46; k++) {
            told = 31 * told + (x.undo() ? 1 : 0);
            for (int what : new int[] {1, 2, 3, 4, 5, 6, 7}) {
                told = 31 * told + x.about(what);
            }
        }
        return told;
    }

    private static long onTape(ReasonCloser x) {
        long told = x.size();
        for (int n = 0; n <= 20; n++) {
            told = 31 * told + named(x, n);
        }
        told = 31 * told + x.text(x.size());
        told = 31 * told + x.fault();
        for (int what = 0; what < 8; what++) {
            told = 31 * told + x.about(what);
        }
        return told;
    }

    private void ask(String call, Ask ask) {
        questions.add(new Question(call, x -> 10 * ask.of(x) + x.trouble()));
    }

    private void askOfAll(int functions, int terms) {
        for (int what : new int[] {0, 1, 2, 3, 4, 6, 7}) {
            ask("about(" + what + ")", x -> x.about(what));
        }
        ask("base()", ReasonCloser::base);
        ask("core()", ReasonCloser::core);
        ask("free()", ReasonCloser::free);
        for (int k = 0; k < 3 * functions; k++) {
            int f = k / 3;
            int what = k % 3;
            ask("function(" + f + ", " + what + ")", x -> x.function(f, what));
        }
        for (int k = 0; k < 6 * terms; k++) {
            int t = k / 6;
            int what = k % 6;
            ask("term(" + t + ", " + what + ")", x -> x.term(t, what));
            ask("partOf(" + t + ", " + what % 4 + ")", x -> x.partOf(t, what % 4));
            ask("hung(" + t + ", " + what + ")", x -> x.hung(t, what));
            ask("height(" + t + ")", x -> x.height(t));
        }
    }

    private void askOfFacts(int sames, int diffs, int joins) {
        for (int k = 0; k < 3 * Math.max(joins, 12); k++) {
            int i = k / 3;
            int what = k % 3;
            if (i < sames) {
                ask("sameOf(" + i + ", " + what + ")", x -> x.sameOf(i, what));
                ask("without(" + i + ", " + what % 2 + ")", x -> x.without(i, what % 2));
            }
            if (i < diffs) {
                ask("diffOf(" + i + ", " + what + ")", x -> x.diffOf(i, what));
            }
            if (i < joins) {
                ask("joinOf(" + i + ", " + what + ")", x -> x.joinOf(i, what));
            }
        }
    }

    /** Of few TERMS all pairs; of many of them some. */
    private void askOfTwo(int terms, int sames) {
        int step = terms > 8 ? 19 : 1;
        for (int k = 0; k < terms * terms; k += step) {
            int t = k / terms;
            int u = k % terms;
            ofTwo("equal", t, u, ReasonCloser::equal);
            ofTwo("apart", t, u, ReasonCloser::apart);
            ofTwo("reasons", t, u, ReasonCloser::reasons);
            ofTwo("pruned", t, u, ReasonCloser::pruned);
            ofTwo("since", t, u, ReasonCloser::since);
            ofTwo("needed", t, u, ReasonCloser::needed);
            ofTwo("level", t, u, ReasonCloser::level);
            ofTwo("cost", t, u, ReasonCloser::cost);
            ofTwo("a set proves", t, u, (x, i, j) -> x.proves((i * 7 + j * 13) % (1 << sames), i, j));
            ofTwo("way 1", t, u, (x, i, j) -> x.way(i, j, 1));
            ofTwo("way 2", t, u, (x, i, j) -> x.way(i, j, 2));
            if (step == 1 || k % 5 == 0) {
                ofTwo("fewest", t, u, ReasonCloser::fewest);
                ofTwo("many", t, u, ReasonCloser::many);
            }
        }
    }

    private void askOnPaper(int terms, int sames) {
        for (int k = 0; k < terms * terms; k += terms > 8 ? 31 : 1) {
            for (int what = 0; what < 3; what++) {
                int asked = what;
                ofTwo("would " + what, k / terms, k % terms, (x, t, u) -> x.would(t, u, asked));
                ofTwo("next 0 " + what, k / terms, k % terms, (x, t, u) -> x.next(t, u, 0, asked));
                ofTwo("next 1 " + what, k / terms, k % terms, (x, t, u) -> x.next(t, u, 1, asked));
            }
        }
    }

    private void ofTwo(String call, int t, int u, OfTwo asked) {
        ask(call + " of " + t + ", " + u, x -> asked.of(x, t, u));
    }
}
