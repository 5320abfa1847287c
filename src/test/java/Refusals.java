import java.util.function.Supplier;

/** Calls that are refused: NONE, TROUBLE, where(), and all else stays as it was. */
final class Refusals {
    private static final int LOW = Integer.MIN_VALUE;
    private static final int TOP = Integer.MAX_VALUE;

    private final Book book;
    private final Due due;
    private Supplier<ReasonCloser> state;
    private Beside beside;
    private int functions;
    private int terms;
    private int sames;
    private int diffs;
    private int joins;

    Refusals(Book book, Due due) {
        this.book = book;
        this.due = due;
    }

    void all() {
        take(States::empty);
        calls();
        take(States::bare);
        calls();
        take(States::mixed);
        calls();
        notSo();
        texts();
        take(States::full);
        tooMany();
        texts();
        take(States::lone);
        notSo();
        troubleReplaced();
        take(States::full);
        ofEachNumber();
    }

    /** One call for each number, where there is all that there may be. */
    private void ofEachNumber() {
        for (String words : new String[] {"0 it wasn't; 1 there is none such (no FUNCTION, TERM, SAME, DIFF, JOIN, what)",
            "2 a number; 3 too many; 4 a FAULT; 5 not so (two that aren't one)", "What is refused changes nothing but trouble(), where()"}) {
            book.test("III", words, () -> {
                ReasonCloser x = state.get();
                x.height(24);
                due.is("about(1)", x.about(1), 24);
                due.is("0 it wasn't", x.trouble(), 0);
                refused("no FUNCTION", y -> y.function(8, 0), 1);
                refused("no TERM", y -> y.hung(24, 0), 1);
                refused("no SAME", y -> y.sameOf(12, 0), 1);
                refused("no DIFF", y -> y.diffOf(8, 0), 1);
                refused("no JOIN", y -> y.joinOf(joins, 0), 1);
                refused("no what", y -> y.about(8), 1);
                refused("a number", y -> y.proves(4096, 0, 0), 2);
                refused("a number", y -> y.text(501), 2);
                refused("too many", y -> y.join(0, 1), 3);
                int other = 0;
                for (int t = 23; t > 0; t--) {
                    other = state.get().equal(0, t) == 0 ? t : other;
                }
                int notOne = other;
                refused("not so", y -> y.since(0, notOne), 5);
                torn("fun a", 1, 5);
            });
        }
    }

    private void take(Supplier<ReasonCloser> taken) {
        state = taken;
        beside = new Beside(due, state);
        ReasonCloser x = state.get();
        functions = x.about(0);
        terms = x.about(1);
        sames = x.about(2);
        diffs = x.about(3);
        joins = x.about(6);
    }

    private void refused(String call, Beside.Ask ask, int trouble) {
        ReasonCloser x = state.get();
        x.about(0);
        due.is(call, ask.of(x), ReasonCloser.NONE);
        due.is(call + ", then trouble()", x.trouble(), trouble);
        due.is(call + ", then where()", x.where(), ReasonCloser.NONE);
        beside.same(call, () -> {
            ReasonCloser y = state.get();
            ask.of(y);
            return y;
        }, state, true);
    }

    private interface OfOne {
        int of(ReasonCloser x, int k, int what);
    }

    /** A call of a number below a count, and of another number from 0 on, below a bound (0: no bound). */
    private void ofOne(String part, String words, String name, int count, int bound, OfOne asked) {
        book.test(part, words, () -> {
            for (int k : new int[] {LOW, -1, count, TOP}) {
                refused(name + "(" + k + ", 0)", x -> asked.of(x, k, 0), 1);
            }
            for (int what : bound > 0 ? new int[] {LOW, -1, bound, TOP} : new int[] {LOW, -1}) {
                refused(name + "(0, " + what + ")", x -> asked.of(x, 0, what), 1);
            }
            refused(name + "(-1, -1)", x -> asked.of(x, -1, -1), 1);
        });
    }

    private void ofTwo(String part, String words, String name, Beside.OfTwo asked) {
        book.test(part, words, () -> {
            for (int t : new int[] {LOW, -1, terms, TOP}) {
                refused(name + " of " + t + ", 0", x -> asked.of(x, t, 0), 1);
                refused(name + " of 0, " + t, x -> asked.of(x, 0, t), 1);
            }
            refused(name + " of " + terms + ", -1", x -> asked.of(x, terms, -1), 1);
        });
    }

    private void calls() {
        book.test("6", "NONE: 1.", () -> {
            for (int what : new int[] {LOW, -1, 8, TOP}) {
                refused("about(" + what + ")", x -> x.about(what), 1);
            }
        });
        ofOne("7", "NONE: 1 (what, too).", "function", functions, 3, ReasonCloser::function);
        ofOne("8", "NONE: 1 (what, too).", "term", terms, 6, ReasonCloser::term);
        ofOne("9", "NONE: 1 (k below 0, too).", "partOf", terms, 0, ReasonCloser::partOf);
        ofOne("10", "NONE: 1 (what, too).", "sameOf", sames, 3, ReasonCloser::sameOf);
        ofOne("11", "NONE: 1 (what, too).", "diffOf", diffs, 3, ReasonCloser::diffOf);
        ofOne("12", "NONE: 1 (what, too).", "joinOf", joins, 3, ReasonCloser::joinOf);
        ofOne("13", "NONE: 1.", "height", terms, 0, (x, t, none) -> none < 0 ? x.height(none) : x.height(t));
        ofOne("14", "NONE: 1 (i below 0, too).", "hung", terms, 0, ReasonCloser::hung);
        ofOne("31", "NONE: 1 (what, too).", "without", sames, 2, ReasonCloser::without);
        ofTwo("15", "NONE: 1.", "equal", ReasonCloser::equal);
        ofTwo("16", "NONE: 1.", "apart", ReasonCloser::apart);
        ofTwo("17", "NONE: 1; 5.", "reasons", ReasonCloser::reasons);
        ofTwo("18", "NONE: 1; 5.", "pruned", ReasonCloser::pruned);
        ofTwo("19", "NONE: 1; 5.", "fewest", ReasonCloser::fewest);
        ofTwo("20", "NONE: 1; 2 (the set).", "proves", (x, t, u) -> x.proves(0, t, u));
        ofTwo("21", "NONE: 1; 5.", "since", ReasonCloser::since);
        ofTwo("22", "NONE: 1; 5.", "needed", ReasonCloser::needed);
        ofTwo("23", "NONE: 1; 5.", "many", ReasonCloser::many);
        ofTwo("25", "NONE: 1; 5.", "level", ReasonCloser::level);
        ofTwo("26", "NONE: 1; 5.", "cost", ReasonCloser::cost);
        ofTwo("27", "NONE: 1 (i below 0, too); 5.", "way", (x, t, u) -> x.way(t, u, 0));
        ofTwo("29", "NONE: 1 (what, too).", "would", (x, t, u) -> x.would(t, u, 0));
        ofTwo("30", "NONE: 1 (i below 0, what, too).", "next", (x, t, u) -> x.next(t, u, 0, 0));
        ofTwo("33", "NONE: 1; 3.", "join", ReasonCloser::join);
        ofTwo("34", "NONE: 1; 3.", "part", ReasonCloser::part);
        furtherNumbers();
        made();
    }

    /** Of calls of two TERMS the third number and the fourth; TERM 0 and itself, so that nothing else is amiss. */
    private void furtherNumbers() {
        for (int below : new int[] {LOW, -1}) {
            book.test("27", "(i below 0, too)", () -> refused("way 0 0 " + below, x -> x.way(0, 0, below), 1));
            book.test("30", "(i below 0, what, too)", () -> refused("next 0 0 " + below, x -> x.next(0, 0, below, 0), 1));
        }
        for (int what : new int[] {LOW, -1, 3, TOP}) {
            book.test("29", "(what, too)", () -> refused("would 0 0 " + what, x -> x.would(0, 0, what), 1));
            book.test("30", "what, too)", () -> refused("next 0 0 0 " + what, x -> x.next(0, 0, 0, what), 1));
        }
        for (int set : new int[] {LOW, -1, 1 << sames, TOP}) {
            book.test("20", "2 (the set)", () -> refused("proves " + set, x -> x.proves(set, 0, 0), terms > 0 ? 2 : 1));
        }
    }

    private void made() {
        book.test("35", "NONE: 1; 3.", () -> {
            for (int f : new int[] {LOW, -1, functions, TOP}) {
                refused("make(" + f + ", 0, 0, 0)", x -> x.make(f, 0, 0, 0), 1);
            }
        });
        for (int f = 0; f < functions; f++) {
            int of = f;
            int takes = state.get().function(f, 0);
            for (int k = 0; k < takes; k++) {
                int at = k;
                for (int part : new int[] {LOW, -1, terms, TOP}) {
                    String call = "make(" + f + ") with PART " + k + " " + part;
                    book.test("35", "NONE: 1", () -> refused(call,
                            x -> x.make(of, at == 0 ? part : 0, at == 1 ? part : 0, at == 2 ? part : 0), 1));
                }
            }
        }
    }

    private void texts() {
        book.test("3", "NONE: 2 (n)", () -> {
            for (int n : new int[] {LOW, -1, state.get().size() + 1, TOP}) {
                refused("text(" + n + ")", x -> x.text(n), 2);
            }
        });
        book.test("3", "4 (all that there was stays, acts too)", () -> {
            torn("", 1, 0);
            torn(";", 1, 0);
            torn("fun x 4", 2, 6);
            torn("fun x 0;fun y 0;term z=x;same z y", 3, 32);
            torn("fun x 0;term z=x;term y=x;same z y;diff z y;term y=x", 3, 49);
            torn("fun x 0;term z=x;term y=x;term w=x(z)", 5, 34);
        });
    }

    /** A FAULT behind facts that were right: these don't come, THE TAPE is empty, fault() and where() are told. */
    private void torn(String text, int fault, int place) {
        Supplier<ReasonCloser> read = () -> {
            ReasonCloser x = state.get();
            x.text(0);
            Due.read(x, text);
            return x;
        };
        ReasonCloser x = read.get();
        due.is(text + ": trouble()", x.trouble(), 4);
        due.is(text + ": fault()", x.fault(), fault);
        due.is(text + ": where()", x.where(), place);
        due.is(text + ": size()", x.size(), 0);
        beside.same(text, read, state, false);
    }

    private void tooMany() {
        book.test("33", "NONE: 1; 3.", () -> {
            refused("a 13th SAME", x -> x.join(0, 23), 3);
            refused("a 13th SAME of a TERM and itself", x -> x.join(5, 5), 3);
            refused("a 13th SAME, of no TERM", x -> x.join(0, 24), 1);
        });
        book.test("34", "NONE: 1; 3.", () -> {
            refused("a ninth DIFF", x -> x.part(0, 23), 3);
            refused("a ninth DIFF of a TERM and itself", x -> x.part(5, 5), 3);
            refused("a ninth DIFF, of no TERM", x -> x.part(-1, 0), 1);
        });
        book.test("35", "NONE: 1; 3.", () -> {
            refused("a 25th TERM of a FUNCTION that takes 0", x -> x.make(0, LOW, LOW, LOW), 3);
            refused("a 25th TERM of a FUNCTION that takes 3", x -> x.make(7, 23, 23, 23), 3);
            refused("a 25th TERM, of no FUNCTION", x -> x.make(8, 0, 0, 0), 1);
            refused("a 25th TERM, of no third PART", x -> x.make(7, 0, 0, 24), 1);
        });
    }

    /** Two TERMS that aren't one. */
    private void notSo() {
        for (int k = 0; k < 3; k++) {
            int t = k == 1 ? 2 : 0;
            int u = k == 1 ? 0 : terms - 1 - k / 2;
            due.is("TERMS that aren't one: " + t + ", " + u, state.get().equal(t, u), 0);
            String two = " of " + t + ", " + u;
            book.test("17", "5.", () -> refused("reasons" + two, x -> x.reasons(t, u), 5));
            book.test("18", "5.", () -> refused("pruned" + two, x -> x.pruned(t, u), 5));
            book.test("19", "5.", () -> refused("fewest" + two, x -> x.fewest(t, u), 5));
            book.test("21", "5.", () -> refused("since" + two, x -> x.since(t, u), 5));
            book.test("22", "5.", () -> refused("needed" + two, x -> x.needed(t, u), 5));
            book.test("23", "5.", () -> refused("many" + two, x -> x.many(t, u), 5));
            book.test("25", "5.", () -> refused("level" + two, x -> x.level(t, u), 5));
            book.test("26", "5.", () -> refused("cost" + two, x -> x.cost(t, u), 5));
            book.test("27", "5.", () -> refused("way" + two, x -> x.way(t, u, 0), 5));
            book.test("27", "5.", () -> refused("way, far on," + two, x -> x.way(t, u, TOP), 5));
            book.test("III", "Of several the one that the call tells first.", () ->
                    refused("way, i below 0," + two, x -> x.way(t, u, -1), 1));
        }
        book.test("III", "Of several the one that the call tells first.", () -> {
            refused("proves, no TERM and no set", x -> x.proves(-1, terms, 0), 1);
            refused("proves, no TERM and a set too large", x -> x.proves(1 << sames, 0, -1), 1);
        });
    }

    /** Each number takes the place of each other one, where() then of a place. */
    private void troubleReplaced() {
        Beside.Ask[] calls = {x -> x.about(0), x -> x.about(8), x -> x.text(-1), x -> x.make(0, 0, 0, 0),
            x -> x.text(0), x -> x.reasons(0, 1)};
        book.test("39", "TROUBLE.", () -> {
            for (int before = 0; before < 6; before++) {
                for (int trouble = 0; trouble < 6; trouble++) {
                    ReasonCloser x = States.lone();
                    calls[before].of(x);
                    due.is("trouble() " + before, x.trouble(), before);
                    due.is("where() by " + before, x.where(), before == 4 ? 0 : -1);
                    calls[trouble].of(x);
                    due.is("trouble() " + before + ", then " + trouble, x.trouble(), trouble);
                    due.is("where() by " + before + ", then " + trouble, x.where(), trouble == 4 ? 0 : -1);
                }
            }
        });
    }
}
