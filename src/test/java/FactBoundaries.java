/** Boundary cases of what there is: how TERMS become one (part II of the document, its first half), and promises 6 to 16. */
final class FactBoundaries {
    private static final int TOP = Integer.MAX_VALUE;

    /** Constants p q r s of their own FUNCTIONS 0 to 3; g takes 1 (FUNCTION 4), h takes 2 (FUNCTION 5). */
    private static final String LEAVES = "fun a 0;fun b 0;fun c 0;fun d 0;fun g 1;fun h 2;"
            + "term p=a;term q=b;term r=c;term s=d";

    private final Book book;
    private final Due due;

    FactBoundaries(Book book, Due due) {
        this.book = book;
        this.due = due;
    }

    void all() {
        closing();
        forest();
        clashing();
        counts();
        ofOne();
        ofFacts();
        ofForest();
        ofTwo();
    }

    private void told(String call, int got, int want) {
        due.is(call, got, want);
    }

    private void joins(ReasonCloser x, int[]... all) {
        told("JOINS", x.about(6), all.length);
        for (int k = 0; k < all.length; k++) {
            for (int what = 0; what < 3; what++) {
                told("joinOf(" + k + ", " + what + ")", x.joinOf(k, what), all[k][what]);
            }
        }
    }

    private static int[] join(int first, int second, int same) {
        return new int[] {first, second, same};
    }

    // ---- II: what becomes one

    private void closing() {
        book.test("II", "A SAME of two TERMS that aren't one: a JOIN of these (the first told, the second), its cause that SAME.", () -> {
            joins(Due.object(LEAVES));
            joins(Due.object(LEAVES + ";same q p"), join(1, 0, 0));
            joins(Due.object(LEAVES + ";same p p"));
            joins(Due.object(LEAVES + ";same p p;same s r"), join(3, 2, 1));
            joins(Due.object(LEAVES + ";same p q;same p q;same q p"), join(0, 1, 0));
            joins(Due.object(LEAVES + ";same p q;same q r;same r p;same s p"), join(0, 1, 0), join(1, 2, 1), join(3, 0, 3));
        });
        book.test("II", "Then again and again, as long as there is one", () -> {
            ReasonCloser x = States.tower();
            joins(x);
            told("one SAME joins all", x.join(1, 0), 1);
            told("JOINS", x.about(6), 23);
            told("the last one's first, the least that it can be", x.joinOf(22, 0), 1);
            told("the last one's second", x.joinOf(22, 1), 23);
            told("its cause are PARTS", x.joinOf(22, 2), -2);
        });
        book.test("II", "those with the least i, then the least j", () -> {
            joins(Due.object(LEAVES + ";term x=h(p,p);term y=g(q);term z=h(p,q);term w=g(p);term v=h(q,q);same q p"),
                    join(1, 0, 0), join(4, 6, -2), join(4, 8, -2), join(5, 7, -2));
            // a pair that comes later, by a JOIN of PARTS, goes ahead of those that wait, if its i is less
            joins(Due.object("fun a 0;fun b 0;fun g 1;fun k 1;term p=a;term q=b;term t=g(p);term u=g(q);term x=k(p);term y=k(q);"
                    + "term v=g(u);term w=g(t);same p q"), join(0, 1, 0), join(2, 3, -2), join(4, 5, -2), join(6, 7, -2));
            joins(Due.object("fun a 0;fun b 0;fun g 1;fun k 1;term p=a;term q=b;term t=g(p);term u=g(q);term v=g(u);term w=g(t);"
                    + "term x=k(p);term y=k(q);same p q"), join(0, 1, 0), join(2, 3, -2), join(4, 5, -2), join(6, 7, -2));
        });
        book.test("II", "PARTS that are one each with each", () -> {
            String two = LEAVES + ";term t=h(p,q);term u=h(r,s)";
            told("neither", Due.object(two).equal(4, 5), 0);
            told("the first alone", Due.object(two + ";same p r").equal(4, 5), 0);
            told("the second alone", Due.object(two + ";same q s").equal(4, 5), 0);
            told("the first with the second", Due.object(two + ";same p s;same q r").equal(4, 5), 0);
            told("within each", Due.object(two + ";same p q;same r s").equal(4, 5), 0);
            told("each with each", Due.object(two + ";same p r;same q s").equal(4, 5), 1);
            String three = "fun a 0;fun b 0;fun k 3;fun l 3;term p=a;term q=b;term r=k(p,p,p);term s=k(q,p,p);term t=k(p,q,p);"
                    + "term u=k(p,p,q);term v=k(q,q,q);term w=l(p,p,p)";
            ReasonCloser x = Due.object(three);
            told("one of three isn't", x.about(4), 8);
            told("each of three, but of another FUNCTION", x.join(0, 1), 3);
            told("another FUNCTION", x.equal(2, 7), 0);
        });
        book.test("II", "a JOIN of i and j, its cause their PARTS", () -> joins(Due.object(LEAVES + ";term t=g(p);term u=g(q);same q p"),
                join(1, 0, 0), join(4, 5, -2)));
        book.test("II", "a TERM that comes, and a SAME, are CLOSED at once", () -> {
            joins(Due.object(LEAVES + ";term t=g(p);term u=g(q);same p q;same t u;same r s"), join(0, 1, 0), join(4, 5, -2),
                    join(2, 3, 2));
            joins(Due.object(LEAVES + ";term t=g(p);term u=g(q);same t u;same p q;same r s"), join(4, 5, 0), join(0, 1, 1),
                    join(2, 3, 2));
            joins(Due.object(LEAVES + ";term t=g(p);same p q;term u=g(q);same r s;term v=g(q)"), join(0, 1, 0), join(4, 5, -2),
                    join(2, 3, 1), join(4, 6, -2));
        });
        book.test("II", "A GROUP: TERMS that are one", () -> {
            told("no TERM, no GROUP", States.bare().about(4), 0);
            told("each its own", States.lone().about(4), 24);
            ReasonCloser x = States.tower();
            x.join(23, 22);
            told("two in one", x.about(4), 23);
            told("how many it has", x.term(23, 2), 2);
            x.join(0, 1);
            told("all in one", x.about(4), 1);
            told("how many it has", x.term(23, 2), 24);
        });
        book.test("II", "(So also, if no SAME came, behind a TERM.)", () -> {
            joins(Due.object("fun a 0;term p=a;term q=a;term r=a"), join(0, 1, -2), join(0, 2, -2));
            joins(Due.object(LEAVES + ";term t=g(p);same p q;term u=g(q);term v=g(r);term w=g(p)"), join(0, 1, 0), join(4, 5, -2),
                    join(4, 7, -2));
            ReasonCloser x = States.lone();
            joins(x);
        });
        book.test("II", "Two TERMS are one, if JOINS lead from one to the other (or they are like numbers).", () -> {
            ReasonCloser x = Due.object(LEAVES + ";same p q;same r q");
            told("itself", x.equal(3, 3), 1);
            told("by two JOINS", x.equal(0, 2), 1);
            told("by none", x.equal(0, 3), 0);
            x = States.chain();
            told("by twelve", x.equal(4, 16), 1);
            told("the next", x.equal(4, 17), 0);
            told("the one ahead", x.equal(3, 4), 0);
        });
        book.test("II", "its LEAD the least of them", () -> {
            ReasonCloser x = States.lone();
            x.join(23, 22);
            x.join(22, 21);
            told("of 23", x.term(23, 1), 21);
            x.join(0, 23);
            told("of 23", x.term(23, 1), 0);
            told("of 0", x.term(0, 1), 0);
            told("of 1", x.term(1, 1), 1);
        });
    }

    // ---- II: THE FOREST

    private void hangs(ReasonCloser x, int... on) {
        for (int t = 0; t < on.length; t++) {
            told("on which " + t + " hangs", x.term(t, 5), on[t]);
        }
    }

    private void forest() {
        book.test("II", "each TERM hangs on none at first", () -> {
            ReasonCloser x = States.lone();
            for (int t = 0; t < 24; t++) {
                told("on which " + t + " hangs", x.term(t, 5), -2);
                told("height of " + t, x.height(t), 0);
                told("on " + t, x.hung(t, 0), -2);
            }
        });
        book.test("II", "A JOIN of a and b: the way from b to the one that hangs on none is turned round", () -> {
            hangs(Due.object(LEAVES + ";same p q"), -2, 0, -2, -2);
            hangs(Due.object(LEAVES + ";same p q;same r p"), 2, 0, -2, -2);
            hangs(Due.object(LEAVES + ";same p q;same r q"), 1, 2, -2, -2);
            hangs(Due.object(LEAVES + ";same p q;same q r;same s r"), 1, 2, 3, -2);
            // what hangs beside the way stays where it hangs, and what a hangs on isn't touched
            hangs(Due.object(LEAVES + ";same p q;same p r;same s r"), 2, 0, 3, -2);
            hangs(Due.object(LEAVES + ";same p q;same r s;same q s"), -2, 0, 3, 1);
        });
        book.test("II", "(each that b's way came through then hangs on the one ahead, by the same JOIN), then b hangs on a by this JOIN",
                () -> {
                    ReasonCloser x = Due.object(LEAVES + ";same p q;same q r;same s r");
                    told("p, q by the first", x.reasons(0, 1), 1);
                    told("q, r by the second", x.reasons(1, 2), 2);
                    told("r, s by the third", x.reasons(2, 3), 4);
                    x = States.chain();
                    x.undo();
                    // 4 hangs on none, 15 at the end; 15 is turned round, and all between
                    x.join(16, 15);
                    for (int t = 4; t < 16; t++) {
                        told("on which " + t + " hangs", x.term(t, 5), t + 1);
                        told("height of " + t, x.height(t), 16 - t);
                        told("REASONS for " + t + " and the next", x.reasons(t, t + 1), 1 << t - 4);
                    }
                    told("on which 16 hangs", x.term(16, 5), -2);
                });
    }

    private void clashing() {
        book.test("II", "A DIFF CLASHES, if its TERMS are one.", () -> {
            told("of a TERM and itself", Due.object(LEAVES + ";diff q q").diffOf(0, 2), 1);
            told("of lone ones", Due.object(LEAVES + ";diff q p").diffOf(0, 2), 0);
            told("ahead of the SAME", Due.object(LEAVES + ";diff q p;same p q").diffOf(0, 2), 1);
            told("behind the SAME", Due.object(LEAVES + ";same p q;diff q p").diffOf(0, 2), 1);
            told("by PARTS", Due.object(LEAVES + ";term t=g(p);term u=g(q);diff u t;same p q").diffOf(0, 2), 1);
        });
        book.test("II", "Two TERMS are APART, if a DIFF is of a TERM that is one with the first and of a TERM that is one with the second "
                + "(or the other way about).", () -> {
            ReasonCloser x = Due.object(LEAVES + ";term t=g(p);term u=g(q);same p q;same r s;diff t r");
            int[] groups = {0, 0, 1, 1, 2, 2};
            for (int t = 0; t < 6; t++) {
                for (int u = 0; u < 6; u++) {
                    told(t + " and " + u, x.apart(t, u), groups[t] + groups[u] == 3 && groups[t] * groups[u] == 2 ? 1 : 0);
                }
            }
            x = Due.object(LEAVES + ";same p q;diff p q;diff s s");
            told("by a DIFF that CLASHES", x.apart(1, 0), 1);
            told("from itself by it", x.apart(1, 1), 1);
            told("from itself by its own", x.apart(3, 3), 1);
            told("no DIFF", x.apart(2, 2), 0);
        });
    }

    // ---- promises 6, 7

    private void abouts(ReasonCloser x, int... all) {
        for (int what = 0; what < all.length; what++) {
            told("about(" + what + ")", x.about(what), all[what]);
        }
    }

    private void counts() {
        book.test("6", "0 FUNCTIONS, 1 TERMS, 2 SAMES, 3 DIFFS, 4 GROUPS, 5 acts that can be undone, 6 JOINS, 7 the first DIFF that "
                + "CLASHES (-2: none).", () -> {
            abouts(States.empty(), 0, 0, 0, 0, 0, 0, 0, -2);
            abouts(States.bare(), 1, 0, 0, 0, 0, 0, 0, -2);
            abouts(States.lone(), 6, 24, 0, 0, 24, 20, 0, -2);
            abouts(States.chain(), 6, 24, 12, 0, 12, 32, 12, -2);
            ReasonCloser x = Due.object("fun a 0;fun g 3");
            for (int t = 0; t < 24; t++) {
                x.make(t == 0 ? 0 : 1, t - 1, t - 1, t - 1);
            }
            for (int k = 0; k < 7; k++) {
                x.part(k, k + 1);
            }
            abouts(x, 2, 24, 0, 7, 24, 31, 0, -2);
            x.part(9, 9);
            abouts(x, 2, 24, 0, 8, 24, 32, 0, 7);
            for (int k = 0; k < 12; k++) {
                x.join(0, 1);
            }
            abouts(x, 2, 24, 12, 8, 1, 44, 23, 0);
        });
        book.test("7", "Of a FUNCTION 0 how many it takes, 1 TERMS of it, 2 GROUPS that have one.", () -> {
            ReasonCloser x = States.lone();
            int[][] due24 = {{0, 1, 1}, {0, 1, 1}, {0, 1, 1}, {0, 1, 1}, {1, 4, 4}, {2, 16, 16}};
            for (int f = 0; f < 6; f++) {
                for (int what = 0; what < 3; what++) {
                    told("function(" + f + ", " + what + ")", x.function(f, what), due24[f][what]);
                }
            }
            x = Due.object("fun a 0;fun b 1;fun c 2;fun d 3;fun e 0;fun f 1;fun g 2;fun h 3");
            for (int f = 0; f < 8; f++) {
                told("takes", x.function(f, 0), f % 4);
                told("no TERMS", x.function(f, 1), 0);
                told("no GROUPS", x.function(f, 2), 0);
            }
            for (int t = 0; t < 24; t++) {
                x.make(4, 0, 0, 0);
            }
            told("24 TERMS of one", x.function(4, 1), 24);
            told("one GROUP", x.function(4, 2), 1);
            x = States.tower();
            told("23 TERMS", x.function(1, 1), 23);
            told("23 GROUPS", x.function(1, 2), 23);
            x.join(0, 1);
            told("one GROUP", x.function(1, 2), 1);
        });
    }

    // ---- promises 8, 9

    private void ofOne() {
        book.test("8", "Of a TERM 0 its FUNCTION, 1 LEAD, 2 how many TERMS its GROUP has, 3 how many TERMS have a PART in its GROUP, 4 how "
                + "deep it is (0 without PARTS, else 1 more than the deepest PART), 5 on which it hangs (-2: none).", () -> {
            ReasonCloser x = States.tower();
            for (int t = 0; t < 24; t++) {
                told("FUNCTION", x.term(t, 0), t == 0 ? 0 : 1);
                told("LEAD", x.term(t, 1), t);
                told("a lone GROUP", x.term(t, 2), 1);
                told("TERMS with it as a PART", x.term(t, 3), t == 23 ? 0 : 1);
                told("how deep", x.term(t, 4), t);
                told("hangs on none", x.term(t, 5), -2);
            }
            x.join(0, 1);
            for (int t = 0; t < 24; t++) {
                told("one LEAD", x.term(t, 1), 0);
                told("all in one GROUP", x.term(t, 2), 24);
                told("TERMS with a PART in it", x.term(t, 3), 23);
                told("how deep stays", x.term(t, 4), t);
            }
            x = Due.object("fun a 0;fun b 0;fun c 0;fun d 0;fun e 0;fun f 0;fun g 0;fun k 3;term p=a;term q=g;term r=k(p,p,q);"
                    + "term s=k(r,p,p);term t=k(p,s,r);term u=k(q,q,t)");
            told("the last FUNCTION", x.term(2, 0), 7);
            told("the one ahead of it", x.term(1, 0), 6);
            int[] deep = {0, 0, 1, 2, 3, 4};
            int[] above = {3, 2, 2, 1, 1, 0};
            for (int t = 0; t < 6; t++) {
                told("how deep " + t, x.term(t, 4), deep[t]);
                told("TERMS with a PART in the GROUP of " + t, x.term(t, 3), above[t]);
            }
        });
        book.test("8", "5 on which it hangs (-2: none)", () -> {
            ReasonCloser x = States.lone();
            x.join(23, 0);
            told("on the last", x.term(0, 5), 23);
            told("the last on none", x.term(23, 5), -2);
            x.join(0, 23);
            told("no JOIN, no other", x.term(0, 5), 23);
            x = States.lone();
            x.join(0, 23);
            told("on the first", x.term(23, 5), 0);
        });
        book.test("9", "The k-th PART of a TERM; -2 beyond.", () -> {
            ReasonCloser x = Due.object("fun a 0;fun g 1;fun h 2;fun k 3;term p=a;term q=g(p);term r=h(q,p);term s=k(r,q,p)");
            int[][] parts = {{}, {0}, {1, 0}, {2, 1, 0}};
            for (int t = 0; t < 4; t++) {
                for (int k = 0; k < 5; k++) {
                    told("partOf(" + t + ", " + k + ")", x.partOf(t, k), k < parts[t].length ? parts[t][k] : -2);
                }
                told("far beyond", x.partOf(t, TOP), -2);
            }
            x.make(2, 3, 0, 1);
            told("what a FUNCTION doesn't take is no PART", x.partOf(4, 2), -2);
        });
    }

    // ---- promises 10 to 12

    private void ofFacts() {
        book.test("10", "The first (what 0), the second TERM (1) of a SAME, 2 1 if the two are one BY all other SAMES, 0.", () -> {
            ReasonCloser x = States.chain();
            for (int k = 0; k < 12; k++) {
                told("first", x.sameOf(k, 0), 4 + k);
                told("second", x.sameOf(k, 1), 5 + k);
                told("BY all others", x.sameOf(k, 2), 0);
            }
            x.undo();
            x.join(15, 4);
            for (int k = 0; k < 12; k++) {
                told("in a ring, BY all others", x.sameOf(k, 2), 1);
            }
            told("its first", x.sameOf(11, 0), 15);
            told("its second", x.sameOf(11, 1), 4);
            told("of a TERM and itself", Due.object(LEAVES + ";same p p").sameOf(0, 2), 1);
            told("alone", Due.object(LEAVES + ";same p q").sameOf(0, 2), 0);
            told("of TERMS that are one without any", Due.object("fun a 0;term p=a;term q=a;same p q").sameOf(0, 2), 1);
        });
        book.test("11", "The first (what 0), the second TERM (1) of a DIFF, 2 1 if it CLASHES, 0.", () -> {
            ReasonCloser x = States.lone();
            for (int k = 0; k < 8; k++) {
                x.part(k == 7 ? 5 : 23 - k, k == 7 ? 5 : k);
            }
            for (int k = 0; k < 8; k++) {
                told("first", x.diffOf(k, 0), k == 7 ? 5 : 23 - k);
                told("second", x.diffOf(k, 1), k == 7 ? 5 : k);
                told("CLASHES", x.diffOf(k, 2), k == 7 ? 1 : 0);
            }
        });
        book.test("12", "Of a JOIN (in order, from 0) the first (what 0), the second TERM (1), 2 its SAME; -2: its cause are PARTS.", () -> {
            ReasonCloser x = States.tower();
            x.join(5, 5);
            x.join(0, 0);
            x.join(1, 0);
            for (int k = 0; k < 23; k++) {
                told("first", x.joinOf(k, 0), 1);
                told("second", x.joinOf(k, 1), k == 0 ? 0 : k + 1);
                told("its SAME", x.joinOf(k, 2), k == 0 ? 2 : -2);
            }
            x = States.chain();
            for (int k = 0; k < 12; k++) {
                told("its SAME", x.joinOf(k, 2), k);
            }
        });
    }

    // ---- promises 13, 14

    private void ofForest() {
        book.test("13", "How many TERMS it goes along THE FOREST from a TERM to the one that hangs on none (0 of that itself).", () -> {
            ReasonCloser x = States.longest();
            for (int t = 2; t < 24; t++) {
                told("height of " + t, x.height(t), t - 2);
            }
            told("of a lone one", x.height(0), 0);
            x.join(23, 4);
            told("of the last, as no JOIN came", x.height(23), 21);
            for (int k = 0; k < 6; k++) {
                x.undo();
            }
            told("of the last, alone with the one ahead", x.height(23), 1);
            told("the highest then", x.height(13), 11);
            // 4 hangs on 23 then; what was above it is turned round, what was below it stays below
            x.join(23, 4);
            told("of 4", x.height(4), 2);
            told("of 2", x.height(2), 4);
            told("of 13", x.height(13), 11);
            x = Due.object(LEAVES + ";same p q;same s p;same r s");
            told("of one that hangs on TERM 0", x.height(1), 3);
            told("of TERM 0", x.height(0), 2);
            told("of the one that hangs on none", x.height(2), 0);
        });
        book.test("14", "The i-th TERM, by numbers, that hangs on one; -2 there are not so many.", () -> {
            ReasonCloser x = Due.object("fun a 0");
            for (int t = 0; t < 24; t++) {
                x.make(0, 0, 0, 0);
            }
            for (int i = 0; i < 23; i++) {
                told("hung(0, " + i + ")", x.hung(0, i), i + 1);
            }
            for (int i : new int[] {23, 24, 25, 1000000, TOP}) {
                told("hung(0, " + i + ")", x.hung(0, i), -2);
            }
            told("hung(23, 0)", x.hung(23, 0), -2);
            x = Due.object(LEAVES + ";same q s;same q p;same q r");
            told("by numbers, not as they came", x.hung(1, 0), 0);
            told("by numbers, the next", x.hung(1, 1), 2);
            told("by numbers, the last", x.hung(1, 2), 3);
            told("no more", x.hung(1, 3), -2);
        });
    }

    // ---- promises 15, 16

    private void ofTwo() {
        book.test("15", "1 if two TERMS are one, 0.", () -> {
            ReasonCloser x = States.tower();
            told("the last and itself", x.equal(23, 23), 1);
            told("the first and the last", x.equal(0, 23), 0);
            x.join(0, 1);
            told("the first and the last", x.equal(0, 23), 1);
            told("the last and the first", x.equal(23, 0), 1);
        });
        book.test("16", "1 if two TERMS are APART, 0.", () -> {
            ReasonCloser x = States.lone();
            told("no DIFF", x.apart(0, 23), 0);
            for (int k = 0; k < 7; k++) {
                x.part(1, 2);
            }
            told("not by these", x.apart(0, 23), 0);
            x.part(23, 0);
            told("by the eighth", x.apart(0, 23), 1);
            told("the other way", x.apart(23, 0), 1);
            told("not itself", x.apart(23, 23), 0);
        });
    }
}
