/** Boundary cases of why two TERMS are one: part II of the document, its second half, and promises 17 to 28. */
final class WhyBoundaries {
    private static final int TOP = Integer.MAX_VALUE;
    private static final int TOP_SUM = 1000000000;
    private static final int ALL_TWELVE = 4095;

    /** Constants p q r s of their own FUNCTIONS 0 to 3; g takes 1 (FUNCTION 4), h takes 2 (FUNCTION 5). */
    private static final String LEAVES = "fun a 0;fun b 0;fun c 0;fun d 0;fun g 1;fun h 2;"
            + "term p=a;term q=b;term r=c;term s=d";

    private final Book book;
    private final Due due;

    WhyBoundaries(Book book, Due due) {
        this.book = book;
        this.due = due;
    }

    void all() {
        reasons();
        sets();
        levels();
        costs();
        costsOfLaterPairs();
        sumsAtTheTop();
        sumsJustAtTheTop();
        sumsFarAboveTheTop();
        ways();
        core();
    }

    private void told(String call, int got, int want) {
        due.is(call, got, want);
    }

    // ---- REASONS, promise 17

    private void reasons() {
        book.test("II", "along THE FOREST from both to the first that both ways have in common", () -> {
            ReasonCloser x = States.chain();
            told("from end to end", x.reasons(4, 16), ALL_TWELVE);
            told("from end to end, the other way", x.reasons(16, 4), ALL_TWELVE);
            told("in between", x.reasons(6, 9), 4 + 8 + 16);
            // both hang on the same: r and s on p, above which hangs q
            x = Due.object(LEAVES + ";same q p;same p r;same p s");
            told("not beyond the first in common", x.reasons(2, 3), 2 + 4);
            told("one on the other's way", x.reasons(1, 3), 1 + 4);
        });
        book.test("II", "(None for one TERM and itself.)", () -> {
            told("lone", States.lone().reasons(23, 23), 0);
            told("in a chain", States.chain().reasons(10, 10), 0);
        });
        book.test("II", "of each JOIN its SAME, or REASONS for its PARTS, each with each, likewise", () -> {
            ReasonCloser x = States.tower();
            x.join(0, 0);
            x.join(0, 1);
            told("two levels", x.reasons(1, 2), 2);
            told("twenty-two levels", x.reasons(22, 23), 2);
            told("all of them", x.reasons(0, 23), 2);
            told("constants, for nothing", Due.object("fun a 0;term p=a;same p p;term q=a").reasons(0, 1), 0);
            x = Due.object(LEAVES + ";term t=h(p,r);term u=h(q,s);same r s;same p q");
            told("each PART with each", x.reasons(4, 5), 3);
        });
        for (String[] bits : new String[][] {{"17", "REASONS, as bits."}, {"II", "SAMES (bits: 1 shifted by its number)"}}) {
            book.test(bits[0], bits[1], () -> {
                ReasonCloser x = States.chain();
                for (int k = 0; k < 12; k++) {
                    told("the bit of SAME " + k, x.reasons(4 + k, 5 + k), 1 << k);
                }
            });
        }
    }

    // ---- PRUNED, FEWEST and sets, promises 18 to 24

    /** p, q by twelve SAMES, of which each alone would do. */
    private static ReasonCloser twelvefold() {
        return Due.object(LEAVES + ";same p q".repeat(12));
    }

    private void sets() {
        book.test("II", "BY a set of SAMES two TERMS are one, if they were so, had all TERMS there are come first, then these SAMES alone.",
                () -> {
                    ReasonCloser x = Due.object("fun a 0;fun b 0;fun g 1;term p=a;term q=b;same p q;term t=g(p);term u=g(q);term v=b");
                    told("a TERM told behind the SAME", x.proves(1, 2, 3), 1);
                    told("by none", x.proves(0, 2, 3), 0);
                    told("for nothing, by none", x.proves(0, 1, 4), 1);
                    told("since the first", x.since(2, 3), 1);
                    told("since none", x.since(1, 4), 0);
                });
        book.test("II", "all SAMES there are, of which, from the last one to the first, each is left out, if the two are one BY what is left "
                + "then without it", () -> {
            told("all but the first", twelvefold().pruned(0, 1), 1);
            told("none left", twelvefold().pruned(3, 3), 0);
            told("none left out", States.chain().pruned(4, 16), ALL_TWELVE);
            told("one of two ways", Due.object(LEAVES + ";same p q;same p r;same q r;same p q").pruned(0, 1), 1);
            told("the later way first", Due.object(LEAVES + ";same p r;same q r;same p q").pruned(0, 1), 3);
        });
        book.test("18", "PRUNED, as bits.", () -> {
            told("a SAME in the middle", States.chain().pruned(9, 10), 32);
            told("the last one", States.chain().pruned(15, 16), 2048);
        });
        book.test("II", "the set of the fewest SAMES BY which they are one, of like many the least number", () -> {
            told("none", twelvefold().fewest(2, 2), 0);
            told("the first of twelve", twelvefold().fewest(0, 1), 1);
            told("all twelve", States.chain().fewest(4, 16), ALL_TWELVE);
            told("6 is less than 9", Due.object(LEAVES + ";same p r;same p s;same s q;same r q").fewest(0, 1), 6);
            told("3 is less than 12", Due.object(LEAVES + ";same p r;same r q;same p s;same s q").fewest(0, 1), 3);
            told("5 is less than 10", Due.object(LEAVES + ";same p r;same p s;same r q;same s q").fewest(0, 1), 5);
            told("one is fewer than two", Due.object(LEAVES + ";same p r;same r q;same p q").fewest(0, 1), 4);
        });
        book.test("19", "FEWEST, as bits.", () -> {
            ReasonCloser x = States.chain();
            x.undo();
            x.join(4, 15);
            told("the last SAME", x.fewest(4, 15), 2048);
            told("the long way round is longer", x.fewest(4, 9), 31);
            told("the long way round is as long", x.fewest(4, 10), 63);
            told("the long way round is shorter", x.fewest(4, 11), 128 + 256 + 512 + 1024 + 2048);
        });
        book.test("20", "1 if two TERMS are one BY a set (bits of SAMES there are), 0.", () -> {
            ReasonCloser x = States.lone();
            told("no SAMES: no bits", x.proves(0, 0, 1), 0);
            told("no SAMES: itself", x.proves(0, 23, 23), 1);
            told("no SAMES: one bit", x.proves(1, 0, 0), -1);
            told("trouble()", x.trouble(), 2);
            x = States.chain();
            told("all", x.proves(ALL_TWELVE, 4, 16), 1);
            told("all but the first", x.proves(ALL_TWELVE - 1, 4, 16), 0);
            told("all but the last", x.proves(2047, 4, 16), 0);
            told("the last", x.proves(2048, 15, 16), 1);
            told("a bit more", x.proves(4096, 4, 16), -1);
            told("trouble()", x.trouble(), 2);
            x.undo();
            told("all of eleven", x.proves(2047, 4, 15), 1);
            told("a bit more than eleven", x.proves(2048, 4, 15), -1);
        });
        book.test("21", "The least number k by which two TERMS are one BY the first k SAMES.", () -> {
            ReasonCloser x = States.chain();
            for (int t = 4; t <= 16; t++) {
                told("since of 4 and " + t, x.since(4, t), t - 4);
            }
            told("of the last SAME alone", x.since(16, 15), 12);
            told("of a lone one and itself", x.since(23, 23), 0);
            told("the first of twelve", twelvefold().since(0, 1), 1);
            told("none", Due.object("fun a 0;term p=a;term q=a;same p q").since(0, 1), 0);
        });
        book.test("22", "SAMES (bits) BY all but one of which two TERMS aren't one: each of these.", () -> {
            told("all", States.chain().needed(4, 16), ALL_TWELVE);
            told("none of twelve", twelvefold().needed(0, 1), 0);
            told("itself", States.chain().needed(5, 5), 0);
            told("the last", States.chain().needed(16, 15), 2048);
            told("one, behind two", Due.object(LEAVES + ";same p q;same p q;same q r").needed(0, 2), 4);
        });
        many();
        book.test("24", "All SAMES, of which, from the last one to the first, each is left out, if its two TERMS are one BY what is left "
                + "then without it: bits.", () -> {
            told("no SAMES", States.lone().base(), 0);
            told("all", States.chain().base(), ALL_TWELVE);
            told("the first of twelve", twelvefold().base(), 1);
            told("of TERMS and themselves", Due.object(LEAVES + ";same p p;same s s").base(), 0);
            told("a ring", Due.object(LEAVES + ";same p q;same q r;same r p").base(), 3);
            told("of PARTS", Due.object(LEAVES + ";term t=g(p);term u=g(q);same u t;same q p").base(), 2);
        });
    }

    /** v and w by PARTS of PARTS, each GROUP another one, and SAMES ahead and behind that don't bear on them. */
    private static final String DEEP = LEAVES + ";term t=g(p);term u=g(q);term v=h(r,t);term w=h(s,u)";

    private void many() {
        book.test("II", "BY which they are one", () -> {
            ReasonCloser x = Due.object(DEEP + ";same t u;same r s;same p q;same p p;same v v");
            told("fewest by PARTS of PARTS", x.fewest(6, 7), 3);
            told("fewest by PARTS", x.fewest(4, 5), 1);
            told("many by PARTS of PARTS", x.many(6, 7), 2);
            told("pruned by PARTS of PARTS", x.pruned(6, 7), 3);
            told("needed by PARTS of PARTS", x.needed(6, 7), 2);
            x = Due.object(DEEP + ";same r p;same r s;same q p;same s q");
            told("fewest of a ring below", x.fewest(6, 7), 6);
            told("many of a ring below", x.many(6, 7), 3);
            x.part(7, 6);
            told("core of a ring below", x.core(), 6);
            told("many, an idle SAME ahead", Due.object(LEAVES + ";same p r;same p q").many(0, 1), 1);
            told("many, an idle SAME behind", Due.object(LEAVES + ";same p q;same r p").many(0, 1), 1);
            told("many, idle SAMES of themselves", Due.object(LEAVES + ";same p p;same p q;same q q").many(0, 1), 1);
        });
        book.test("23", "How many sets of SAMES there are BY which two TERMS are one, and BY none with one SAME less of which they are.", () -> {
            told("the empty set", States.chain().many(20, 20), 1);
            told("no SAMES", States.lone().many(0, 0), 1);
            told("all twelve together", States.chain().many(4, 16), 1);
            told("twelve of one each", twelvefold().many(0, 1), 12);
            told("6 by 6", Due.object(LEAVES + ";same p q".repeat(6) + ";same q r".repeat(6)).many(0, 2), 36);
            told("4 by 4 by 4", Due.object(LEAVES + ";same p q".repeat(4) + ";same q r".repeat(4) + ";same r s".repeat(4)).many(0, 3), 64);
            ReasonCloser x = States.lone();
            for (int k = 0; k < 12; k++) {
                x.join(4 + k / 3, 5 + k / 3);
            }
            told("3 by 3 by 3 by 3", x.many(4, 8), 81);
            // what was asked ahead is forgotten, be it of more SAMES or of fewer
            int[] sets = {1, 3, 9, 27, 81};
            for (int k = 0; k < 25; k++) {
                told("many of " + (4 + k / 5) + ", " + (4 + k % 5), x.many(4 + k / 5, 4 + k % 5), sets[Math.abs(k / 5 - k % 5)]);
            }
        });
    }

    // ---- LEVEL, promise 25

    private void levels() {
        book.test("II", "0, if SAMES alone lead from one to the other (or one and itself)", () -> {
            ReasonCloser x = States.chain();
            told("by twelve SAMES", x.level(16, 4), 0);
            told("itself", x.level(23, 23), 0);
            told("a lone one", x.level(0, 0), 0);
            told("a pair that has a SAME", Due.object("fun a 0;term p=a;term q=a;same p q").level(0, 1), 0);
        });
        book.test("II", "else the least n by which SAMES and pairs of TERMS with the same FUNCTION, of which the PARTS are one by LEVELS "
                + "below n, lead from one to the other", () -> {
            told("no PARTS", Due.object("fun a 0;term p=a;term q=a").level(1, 0), 1);
            told("PARTS of level 0", Due.object(LEAVES + ";term t=g(p);term u=g(q);same p q").level(4, 5), 1);
            told("PARTS of levels 0 and 1", Due.object(LEAVES + ";term t=g(p);term u=g(q);term v=h(p,t);term w=h(q,u);same p q")
                    .level(6, 7), 2);
        });
        book.test("25", "LEVEL.", () -> {
            ReasonCloser x = States.tower();
            x.join(0, 1);
            for (int t = 0; t < 23; t++) {
                told("of " + t + " and the next", x.level(t, t + 1), t);
                told("of 0 and " + (t + 1), x.level(0, t + 1), t);
            }
        });
    }

    // ---- COST, promise 26

    private void costs() {
        book.test("II", "(of one and itself 0)", () -> {
            told("a lone one", States.lone().cost(23, 23), 0);
            told("with a SAME of itself", Due.object("fun a 0;term p=a;same p p").cost(0, 0), 0);
            told("constants", Due.object("fun a 0;term p=a;term q=a;same p q").cost(0, 1), 0);
        });
        book.test("II", "of 1 for each SAME, and for each pair of TERMS with the same FUNCTION, PARTS one each with each, the COSTS of these "
                + "pairs of PARTS together", () -> {
            ReasonCloser x = Due.object("fun a 0;fun b 0;fun g 1;fun h 2;fun k 3;term p=a;term q=b;same p q");
            int[] parts = {2, 3, 4};
            for (int f : parts) {
                told("first", x.make(f, 0, 0, 0), 2 * f - 2);
                told("second", x.make(f, 1, 1, 1), 2 * f - 1);
                told("as many as PARTS", x.cost(2 * f - 2, 2 * f - 1), f - 1);
            }
            told("PARTS that are like numbers cost nothing", x.make(4, 0, 1, 0), 8);
            told("the others are added", x.cost(6, 8), 1);
            told("the others are added, from the other", x.cost(7, 8), 2);
            told("a lone SAME", Due.object(LEAVES + ";same p q").cost(1, 0), 1);
            told("the same SAME twice", Due.object(LEAVES + ";same p q;same q p").cost(1, 0), 1);
        });
        book.test("26", "COST.", () -> {
            ReasonCloser x = States.chain();
            for (int t = 4; t <= 16; t++) {
                told("of 4 and " + t, x.cost(4, t), t - 4);
                told("of " + t + " and 4", x.cost(t, 4), t - 4);
            }
        });
    }

    /** A pair is cheaper by a way of its PARTS that leads through a pair told later; then so is what it is a PART of. */
    private void costsOfLaterPairs() {
        book.test("II", "the COSTS of these pairs of PARTS together", () -> {
            ReasonCloser x = Due.object(LEAVES + ";term v=g(p);term w=g(q);term x=g(v);term y=g(w);term t=h(r,r);term u=h(s,s);"
                    + "fun k 1;term m=k(r);term n=k(s);same r s;same p t;same q u;same m n");
            told("PARTS by a way through a later pair", x.cost(0, 1), 4);
            told("the pair", x.cost(4, 5), 4);
            told("the pair of pairs", x.cost(6, 7), 4);
            told("the later pair", x.cost(8, 9), 2);
            told("its LEVEL", x.level(8, 9), 1);
            told("LEVEL of the PARTS", x.level(0, 1), 1);
            told("LEVEL of the pair", x.level(4, 5), 2);
            told("LEVEL of the pair of pairs", x.level(6, 7), 3);
            way(x, 0, 8, 9, 1);
            way(x, 7, 6);
        });
    }

    /** 20 TERMS as in tower(), one by one SAME: side by side 0 and 1 for 1, k and k + 1 for 3 times what k - 1 and k are for. */
    private static ReasonCloser steep() {
        ReasonCloser x = Due.object("fun a 0;fun g 3;fun h 3;fun k 3;fun c 0;term p=a");
        for (int t = 0; t < 19; t++) {
            x.make(1, t, t, t);
        }
        x.join(0, 1);
        return x;
    }

    private static int between(int i, int j) {
        int sum = 0;
        int step = 1;
        for (int t = 0; t < j; t++) {
            sum += t < i ? 0 : step;
            step *= 3;
        }
        return sum;
    }

    /** Two TERMS of one FUNCTION that takes 3, whose PARTS are one each with each: numbers of the first, of the second. */
    private static void makeTwo(ReasonCloser x, int f, int[] first, int[] second) {
        x.make(f, first[0], first[1], first[2]);
        x.make(f, second[0], second[1], second[2]);
    }

    private void sumsAtTheTop() {
        book.test("II", "each COST, each such sum is 1,000,000,000, if it would be more", () -> {
            ReasonCloser x = steep();
            for (int i = 0; i < 20; i++) {
                for (int j = i; j < 20; j++) {
                    told("below the top: " + i + ", " + j, x.cost(i, j), between(i, j));
                }
            }
            told("the dearest", x.cost(0, 19), 581130733);
            x = steep();
            makeTwo(x, 2, new int[] {12, 11, 11}, new int[] {13, 14, 15});
            makeTwo(x, 3, new int[] {16, 18, 16}, new int[] {17, 19, 19});
            told("one pair's PARTS together", x.cost(20, 21), 9920232);
            told("another's", x.cost(22, 23), 990074583);
            x.join(21, 22);
            told("a way's sum below the top", x.cost(20, 23), 999994816);
            told("the other way", x.cost(23, 20), 999994816);
            x = steep();
            makeTwo(x, 2, new int[] {12, 11, 10}, new int[] {13, 14, 15});
            makeTwo(x, 3, new int[] {10, 18, 9}, new int[] {16, 19, 19});
            told("one pair's PARTS together", x.cost(20, 21), 9979281);
            told("another's", x.cost(22, 23), 990035217);
            x.join(22, 21);
            told("a way's sum of 1,000,014,499", x.cost(20, 23), TOP_SUM);
            x = steep();
            makeTwo(x, 2, new int[] {13, 15, 11}, new int[] {14, 16, 18});
            makeTwo(x, 3, new int[] {20, 20, 12}, new int[] {21, 21, 19});
            told("PARTS together below the top", x.cost(22, 23), 999994815);
            x.undo();
            x.undo();
            x.undo();
            x.undo();
            makeTwo(x, 2, new int[] {10, 14, 10}, new int[] {12, 16, 18});
            makeTwo(x, 3, new int[] {20, 15, 20}, new int[] {21, 19, 21});
            told("PARTS together of 1,000,053,864", x.cost(22, 23), TOP_SUM);
        });
    }

    /** 21 TERMS as in steep(), but that some have another third PART than the one ahead: TERM, third PART, TERM, third PART .. */
    private static ReasonCloser uneven(int... others) {
        ReasonCloser x = Due.object("fun a 0;fun g 3;fun h 3;fun c 0;term p=a");
        for (int t = 1; t < 21; t++) {
            int third = t - 1;
            for (int k = 0; k < others.length; k += 2) {
                third = others[k] == t ? others[k + 1] : third;
            }
            x.make(1, t - 1, t - 1, third);
        }
        x.join(0, 1);
        return x;
    }

    /** Sums that miss the top by one, reach it, and are one more: of PARTS together, and of a way with one SAME more. */
    private void sumsJustAtTheTop() {
        book.test("II", "each such sum is 1,000,000,000, if it would be more", () -> {
            ReasonCloser x = uneven(6, 4, 7, 4);
            told("three PARTS", x.cost(13, 20), 968108355);
            told("three PARTS", x.cost(6, 9), 5184);
            told("three PARTS", x.cost(15, 17), 31886460);
            makeTwo(x, 2, new int[] {13, 6, 15}, new int[] {20, 9, 17});
            told("PARTS together of 999,999,999", x.cost(21, 22), TOP_SUM - 1);
            x.make(3, 0, 0, 0);
            x.join(22, 23);
            told("PARTS together of 999,999,999 still", x.cost(22, 21), TOP_SUM - 1);
            told("a way's sum of 1,000,000,000", x.cost(21, 23), TOP_SUM);
            way(x, 23, 22, 21);
            x = uneven(2, 0, 3, 1, 8, 0, 15, 3);
            makeTwo(x, 2, new int[] {18, 8, 11}, new int[] {20, 17, 20});
            told("PARTS together of 1,000,000,000", x.cost(21, 22), TOP_SUM);
            x.make(3, 0, 0, 0);
            x.join(21, 23);
            told("a way's sum of 1,000,000,001", x.cost(23, 22), TOP_SUM);
            way(x, 23, 21, 22);
            x = uneven(2, 0, 7, 2, 8, 4, 14, 11);
            told("three PARTS", x.cost(8, 20), 438486860);
            told("three PARTS", x.cost(12, 19), 146067705);
            told("three PARTS", x.cost(18, 20), 415445436);
            makeTwo(x, 2, new int[] {8, 12, 18}, new int[] {20, 19, 20});
            told("PARTS together of 1,000,000,001", x.cost(22, 21), TOP_SUM);
        });
    }

    private void sumsFarAboveTheTop() {
        book.test("II", "each COST, each such sum is 1,000,000,000", () -> {
            // three times the top is more than an int holds
            ReasonCloser x = States.tower();
            x.join(0, 1);
            told("the last below", x.cost(18, 19), 387420489);
            for (int t = 19; t < 23; t++) {
                told("of " + t + " and the next", x.cost(t, t + 1), TOP_SUM);
                told("of 0 and the next of " + t, x.cost(0, t + 1), TOP_SUM);
            }
            told("the last sum below", x.cost(0, 19), 581130733);
            told("of all", x.cost(23, 0), TOP_SUM);
        });
        book.test("27", "of like ones that with the fewest TERMS", () -> {
            // 20 and 21 straight by their PARTS for 1,743,392,199, or by SAMES and by PARTS for 1,355,971,712: both at the top
            ReasonCloser x = steep();
            makeTwo(x, 2, new int[] {0, 0, 0}, new int[] {19, 19, 19});
            makeTwo(x, 3, new int[] {0, 0, 0}, new int[] {18, 19, 19});
            x.join(20, 22);
            x.join(21, 23);
            told("at the top", x.cost(20, 21), TOP_SUM);
            way(x, 20, 21);
            // by other SAMES for less than the top, with more TERMS
            x.join(20, 0);
            x.join(21, 19);
            told("below the top", x.cost(20, 21), 581130735);
            way(x, 20, 0, 1, 19, 21);
            x = States.tower();
            x.join(0, 1);
            way(x, 1, 23);
            way(x, 0, 1, 23);
            way(x, 19, 20);
        });
        book.test("27", "or they have the same FUNCTION and PARTS that are one each with each", () -> {
            // 22 and 23 have the same FUNCTION, but PARTS that aren't one: not side by side, though their COST is at the top
            ReasonCloser x = steep();
            makeTwo(x, 2, new int[] {0, 0, 0}, new int[] {19, 19, 19});
            makeTwo(x, 3, new int[] {0, 0, 0}, new int[] {0, 20, 0});
            x.join(22, 20);
            x.join(23, 21);
            told("at the top", x.cost(22, 23), TOP_SUM);
            way(x, 22, 20, 21, 23);
        });
        book.test("27", "of these always the least TERM next", () -> {
            // from the constant 23 to 22 by 20 or by 21, both at the top: the least next, though it is the dearer one
            ReasonCloser x = steep();
            makeTwo(x, 2, new int[] {19, 19, 19}, new int[] {18, 19, 19});
            makeTwo(x, 2, new int[] {0, 0, 0}, new int[] {0, 0, 0});
            x.undo();
            x.make(4, 0, 0, 0);
            x.join(23, 20);
            x.join(23, 21);
            told("at the top", x.cost(23, 22), TOP_SUM);
            way(x, 23, 20, 22);
        });
    }

    // ---- promise 27

    private void way(ReasonCloser x, int... terms) {
        int from = terms[0];
        int to = terms[terms.length - 1];
        for (int i = 0; i < terms.length; i++) {
            told("way from " + from + " to " + to + ", " + i, x.way(from, to, i), terms[i]);
        }
        for (int i : new int[] {terms.length, terms.length + 1, 24, 25, 1000, TOP}) {
            told("way from " + from + " to " + to + ", beyond: " + i, x.way(from, to, i), -2);
        }
    }

    private void ways() {
        book.test("27", "(0: the first told)", () -> {
            way(States.chain(), 16, 15);
            way(States.chain(), 15, 16);
            way(States.lone(), 23);
            way(Due.object("fun a 0;term p=a"), 0);
            way(Due.object("fun a 0;term p=a;term q=a"), 0, 1);
            way(Due.object(LEAVES + ";same p q;same q r;same s r"), 3, 2, 1, 0);
        });
        book.test("27", "-2 beyond.", () -> {
            way(States.chain(), 4, 5, 6, 7, 8, 9, 10, 11, 12, 13, 14, 15, 16);
            way(States.chain(), 16, 15, 14, 13, 12, 11, 10, 9, 8, 7, 6, 5, 4);
            ReasonCloser x = States.longest();
            told("COST from end to end", x.cost(2, 23), 10);
            way(x, 2, 3, 4, 5, 6, 7, 8, 9, 10, 11, 12, 13, 14, 15, 16, 17, 18, 19, 20, 21, 22, 23);
        });
        book.test("27", "(Two TERMS stand side by side on a way, if a SAME is of them, or they have the same FUNCTION and PARTS that are "
                + "one each with each.)", () -> {
            way(Due.object("fun a 0;term p=a;term q=a;term r=a"), 2, 0);
            way(Due.object(LEAVES + ";same p q"), 1, 0);
            ReasonCloser x = Due.object(LEAVES + ";term t=g(p);term u=g(q);same p r;same r q;same t s;same s u");
            told("by PARTS for 2, by SAMES for 2", x.cost(4, 5), 2);
            way(x, 4, 5);
        });
        book.test("27", "The i-th TERM (0: the first told) on the way of the least COST from one TERM to another", () -> {
            way(Due.object(LEAVES + ";same p q;same q r;same r s;same p r"), 0, 2, 3);
            // for nothing through two of one FUNCTION, rather than by a SAME
            ReasonCloser x = Due.object("fun a 0;fun b 0;term p=a;term q=b;term r=a;term s=b;same p q;same r s");
            told("COST", x.cost(0, 3), 1);
            way(x, 0, 1, 3);
            way(x, 2, 0, 1);
        });
    }

    // ---- promise 28

    private void core() {
        book.test("28", "The fewest SAMES, as bits, BY which the TERMS of some DIFF are one (of like many the least number)", () -> {
            told("one of two DIFFS", Due.object(LEAVES + ";same p q;same r s;diff s r;diff p q").core(), 1);
            told("6 is less than 9", Due.object(LEAVES + ";same p r;same p s;same s q;same r q;diff q p").core(), 6);
            told("one is fewer than two", Due.object(LEAVES + ";same p q;same q r;same s r;diff p r;diff s r").core(), 4);
            told("one is fewer than two, first", Due.object(LEAVES + ";same p q;same q r;same s r;diff s r;diff p r").core(), 4);
            told("one, of another GROUP, is fewer than two", Due.object(LEAVES + ";term t=g(s);same p q;same q r;same s t;diff s t;"
                    + "diff p r").core(), 4);
            told("none is the fewest", Due.object(LEAVES + ";same p q;diff p q;diff s s").core(), 0);
            told("none is the fewest, first", Due.object(LEAVES + ";same p q;diff s s;diff p q").core(), 0);
            told("one of two DIFFS, first", Due.object(LEAVES + ";same p q;same r s;diff p q;diff s r").core(), 1);
            told("none, by constants", Due.object("fun a 0;term p=a;term q=a;same p q;diff p q").core(), 0);
            ReasonCloser x = States.chain();
            x.part(16, 4);
            told("all twelve", x.core(), ALL_TWELVE);
            x.part(4, 15);
            told("eleven", x.core(), 2047);
            for (int k = 2; k < 8; k++) {
                x.part(7, k < 7 ? 0 : 16);
            }
            told("by the eighth DIFF", x.core(), ALL_TWELVE - 7);
        });
        book.test("28", "-2: none CLASHES", () -> {
            told("nothing told", States.empty().core(), -2);
            told("no DIFF", States.chain().core(), -2);
            ReasonCloser x = States.chain();
            for (int k = 0; k < 8; k++) {
                x.part(k / 4, 16 + k);
            }
            told("eight that don't CLASH", x.core(), -2);
        });
    }
}
