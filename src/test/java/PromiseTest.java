import java.util.NoSuchElementException;

/** Each promise of the document by hand: ordinary calls, its edges, and calls that are refused. */
public final class PromiseTest {
    private static final int LOW = Integer.MIN_VALUE;
    private static final int TOP = Integer.MAX_VALUE;

    /** Constants a b c d are TERMS 0 .. 3 of own FUNCTIONS 0 .. 3; g takes 1 (FUNCTION 4), h takes 2 (FUNCTION 5). */
    private static final String LEAVES = "fun a 0;fun b 0;fun c 0;fun d 0;fun g 1;fun h 2;"
            + "term p=a;term q=b;term r=c;term s=d";

    private static final Due due = new Due();

    public static void main(String[] args) {
        newObject();
        feeds();
        texts();
        faults();
        facesOfWhat();
        functions();
        terms();
        partsAndPairs();
        forests();
        equalAndApart();
        why();
        proofs();
        levelsAndCosts();
        costsFollow();
        capsOfCosts();
        cores();
        onPaper();
        acts();
        names();
        troubles();
        due.end();
    }

    // promise 1
    private static void newObject() {
        ReasonCloser x = new ReasonCloser();
        due.is("1: NONE", ReasonCloser.NONE, -1);
        due.is("1: size()", x.size(), 0);
        due.is("1: trouble()", x.trouble(), 0);
        due.is("1: fault()", x.fault(), 0);
        due.is("1: where()", x.where(), -1);
        for (int what = 0; what <= 6; what++) {
            due.told(x, "1: about(" + what + ")", x.about(what), 0);
        }
        due.told(x, "1: about(7)", x.about(7), -2);
        due.is("1: base()", x.base(), 0);
        due.is("1: core()", x.core(), -2);
        due.is("1: free()", x.free(), 0);
        due.yes("1: undo()", !x.undo());
        due.refused(x, "1: function(0, 0)", x.function(0, 0), 1);
        due.refused(x, "1: term(0, 0)", x.term(0, 0), 1);
        due.refused(x, "1: sameOf(0, 0)", x.sameOf(0, 0), 1);
        due.refused(x, "1: diffOf(0, 0)", x.diffOf(0, 0), 1);
        due.refused(x, "1: joinOf(0, 0)", x.joinOf(0, 0), 1);
        due.refused(x, "1: equal(0, 0)", x.equal(0, 0), 1);
        due.refused(x, "1: proves(0, 0, 0)", x.proves(0, 0, 0), 1);
        due.refused(x, "1: join(0, 0)", x.join(0, 0), 1);
        due.refused(x, "1: part(0, 0)", x.part(0, 0), 1);
        due.refused(x, "1: make(0, 0, 0, 0)", x.make(0, 0, 0, 0), 1);
        due.refused(x, "1: would(0, 0, 0)", x.would(0, 0, 0), 1);
        due.refused(x, "1: without(0, 0)", x.without(0, 0), 1);
    }

    // promises 2, 38
    private static void feeds() {
        ReasonCloser x = new ReasonCloser();
        for (int k = 1; k <= 25; k++) {
            due.is("2: feed " + k, x.feed(LOW, TOP, -1, 0, k), 20 * k);
            due.is("38: size " + k, x.size(), 20 * k);
        }
        due.is("2: feed 26", x.feed(1, 2, 3, 4, 5), -1);
        due.is("38: size of a full TAPE", x.size(), 500);
        due.is("2: trouble() stays", x.trouble(), 0);
        x.about(99);
        due.is("2: feed 27", x.feed(1, 2, 3, 4, 5), -1);
        due.is("2: trouble() stays 1", x.trouble(), 1);
        due.is("2: text of what isn't one", x.text(500), -1);
        due.is("2: where() ahead of a feed", x.where(), 0);
        due.is("2: fed again", x.feed(0x66756e20, 0x61203020, 0x20202020, 0x20202020, 0x20202020), 20);
        due.is("2: where() stays", x.where(), 0);
        due.is("2: trouble() stays 4", x.trouble(), 4);
        due.is("2: the highest byte first", x.text(7), 0);
        due.is("2: then about(0)", x.about(0), 1);
        // each of the five numbers, and each byte of them: the TEXT fills the twenty bytes
        due.is("2: twenty bytes", Due.read(x, "fun abcdef 0;fun g 2"), 0);
        due.is("2: of these, FUNCTIONS", x.about(0), 2);
        due.is("2: of these, g", x.function(1, 0), 2);
    }

    // promise 3
    private static void texts() {
        ReasonCloser x = new ReasonCloser();
        due.refused(x, "3: text(1) of an empty TAPE", x.text(1), 2);
        due.refused(x, "3: text(-1)", x.text(-1), 2);
        due.refused(x, "3: text(LOW)", x.text(LOW), 2);
        Due.feed(x, "fun a 0;term p=a");
        due.refused(x, "3: text(21) of 20", x.text(21), 2);
        due.refused(x, "3: text(TOP)", x.text(TOP), 2);
        due.is("3: the TAPE stays", x.size(), 20);
        due.is("3: fault() stays", x.fault(), 0);
        due.told(x, "3: text(20)", x.text(20), 1);
        due.is("3: the TAPE is empty", x.size(), 0);
        x.make(0, 0, 0, 0);
        x.part(0, 1);
        due.is("3: acts", x.about(5), 2);
        due.is("3: a FAULT", Due.read(x, "fun"), -1);
        due.is("3: acts stay", x.about(5), 2);
        due.is("3: TERMS stay", x.about(1), 2);
        due.is("3: the TAPE is empty too", x.size(), 0);
        due.told(x, "3: a text", Due.read(x, LEAVES + ";same p q;diff r s"), 4);
        due.is("3: no acts", x.about(5), 0);
        due.is("3: FUNCTIONS", x.about(0), 6);
        due.is("3: SAMES", x.about(2), 1);
        due.is("3: DIFFS", x.about(3), 1);
        due.yes("3: no act of a TEXT is undone", !x.undo());
        due.is("3: SAMES still", x.about(2), 1);
        due.told(x, "3: without TERMS", Due.read(x, "fun z 3"), 0);
        due.is("3: all is gone", x.about(2) + x.about(3) + x.about(4) + x.about(6), 0);
        // only the first n bytes count
        Due.feed(x, "fun a 0;term p=a;term q=a");
        due.told(x, "3: sixteen bytes", x.text(16), 1);
        // the TEXT ends in the middle of what stands together on THE TAPE
        Due.feed(x, "fun a 12;;");
        due.told(x, "3: one digit of two", x.text(7), 0);
        Due.feed(x, "fun a 0;term p=ab");
        due.told(x, "3: one letter of two", x.text(16), 1);
        Due.feed(x, "fun abcdef0;term p=abcdefg");
        due.told(x, "3: six letters of seven", x.text(25), 1);
        // what was there two texts ago is gone as well
        x.join(0, 0);
        x.part(0, 0);
        due.told(x, "3: a text", Due.read(x, "fun a 0;term p=a"), 1);
        x.make(0, 0, 0, 0);
        due.told(x, "3: another text", Due.read(x, "fun a 0;fun b 0;term p=a;term q=b"), 2);
        due.is("3: no acts of two texts ago", x.about(5), 0);
        due.yes("3: none to undo", !x.undo());
        due.is("3: no SAMES, DIFFS, JOINS of two texts ago", x.about(2) + x.about(3) + x.about(6), 0);
        // the largest TEXT there can be
        StringBuilder all = new StringBuilder("fun a 0;term t=a");
        while (all.length() < 500) {
            all.append(' ');
        }
        due.told(x, "3: 500 bytes", Due.read(x, all.toString()), 1);
    }

    private static void fault(String text, int fault, int place) {
        ReasonCloser x = Due.object("fun o 0;term keep=o;term kept=o");
        due.is("text " + text, Due.read(x, text), -1);
        due.is("39: " + text + ", then trouble()", x.trouble(), 4);
        due.is("4: " + text + ", then fault()", x.fault(), fault);
        due.is("5: " + text + ", then where()", x.where(), place);
        due.is("3: " + text + ", then size()", x.size(), 0);
        due.is("3: " + text + ", then about(1)", x.about(1), 2);
        due.is("5: " + text + ", then where() once more", x.where(), -1);
        due.is("4: " + text + ", then fault() once more", x.fault(), fault);
    }

    // promises 4, 5, and Terms I
    private static void faults() {
        fault("", 1, 0);
        fault("   ", 1, 3);
        fault("fun", 1, 3);
        fault("fun a", 1, 5);
        fault("fun a 0;", 1, 8);
        fault("fun a 0; ; fun b 0", 1, 9);
        fault("; fun a 0", 1, 0);
        fault("fun a 0 fun b 0", 1, 8);
        fault("fun a 00", 1, 6);
        fault("fun a 123", 1, 6);
        fault("fun a 0 0", 1, 8);
        fault("fun 3", 1, 4);
        fault("fun abcdefg 1", 1, 4);
        fault("fun fun 0", 1, 4);
        fault("fun diff 0", 1, 4);
        fault("Fun a 0", 1, 0);
        fault("fun A 0", 1, 4);
        fault("fun a 0\n;fun b 0", 1, 7);
        fault("fun a\t0", 1, 5);
        fault("fun a 0;" + (char) 0, 1, 8);
        fault("fun a 0" + (char) 160, 1, 7);
        fault("fun a 0;" + (char) 225, 1, 8);
        fault("fun `a 0", 1, 4);
        fault("fun a{ 0", 1, 5);
        fault("fun a /", 1, 6);
        fault("fun a :", 1, 6);
        fault("funs a 0", 1, 0);
        fault("a = b", 1, 0);
        fault("1", 1, 0);
        fault("=", 1, 0);
        fault("fun a 4", 2, 6);
        fault("fun a 9", 2, 6);
        fault("fun a 4 4", 2, 6);
        fault("fun a 0;fun a 9", 3, 12);
        fault("fun a 0;fun a 99", 3, 12);
        fault("fun a 0;term a=a", 3, 13);
        fault("fun a 0;term b=a;fun b 0", 3, 21);
        fault("fun a 0;term b=a;term b=a", 3, 22);
        fault("fun a 0;term b=b", 3, 15);
        fault("fun a 0;term b=c", 3, 15);
        fault("fun a 0;term b=a;term c=b", 3, 24);
        fault("fun a 1;term b=a(b)", 3, 17);
        fault("fun a 1;term b=a(a)", 3, 17);
        fault("fun a 0;fun g 1;term b=a;term c=g(c)", 3, 34);
        fault("same p q", 3, 5);
        fault("fun a 0;term p=a;same p q", 3, 24);
        fault("fun a 0;term p=a;same p a", 3, 24);
        fault("fun a 0;term p=a;diff a p", 3, 22);
        fault("fun a 0;term p=a;diff p same", 1, 24);
        fault("fun a 0;term p=a;diff p", 1, 23);
        fault("fun a 0;term p=a;diff p,p", 1, 23);
        fault("fun a 0;term p", 1, 14);
        fault("fun a 0;term p a", 1, 15);
        fault("fun a 0;term p=", 1, 15);
        fault("fun a 0;term p==", 1, 15);
        fault("fun a 0;term p=term", 1, 15);
        fault("fun a 0;term =a", 1, 13);
        fault("fun a 0;term p=a)", 1, 16);
        fault("fun a 0;term p=a,", 1, 16);
        fault("fun a 0;term p=a p", 1, 17);
        fault("fun a 0;term p=a(", 5, 16);
        fault("fun a 0;term p=a()", 5, 16);
        fault("fun a 0;term p=a (zzzzzzz", 5, 17);
        fault("fun a 0;fun g 1;term p=a;term q=g", 5, 33);
        fault("fun a 0;fun g 1;term p=a;term q=g  ", 5, 35);
        fault("fun a 0;fun g 1;term p=a;term q=g ;", 5, 34);
        fault("fun a 0;fun g 1;term p=a;term q=g)", 1, 33);
        fault("fun a 0;fun g 1;term p=a;term q=g p", 1, 34);
        fault("fun a 0;fun g 1;term p=a;term q=g(", 1, 34);
        fault("fun a 0;fun g 1;term p=a;term q=g()", 1, 34);
        fault("fun a 0;fun g 1;term p=a;term q=g(p", 1, 35);
        fault("fun a 0;fun g 1;term p=a;term q=g(p;", 1, 35);
        fault("fun a 0;fun g 1;term p=a;term q=g(p p", 1, 36);
        fault("fun a 0;fun g 1;term p=a;term q=g(p,", 5, 35);
        fault("fun a 0;fun g 1;term p=a;term q=g(p)p", 1, 36);
        fault("fun a 0;fun g 2;term p=a;term q=g(p)", 5, 35);
        fault("fun a 0;fun g 2;term p=a;term q=g(p,)", 1, 36);
        fault("fun a 0;fun g 2;term p=a;term q=g(p,p,p)", 5, 37);
        fault("fun a 0;fun g 3;term p=a;term q=g(p,p)", 5, 37);
        fault("fun a 0;fun g 3;term p=a;term q=g(p,p,p,p)", 5, 39);
        fault("fun a 0;fun g 3;term p=a;term q=g(p,p,x,p)", 3, 38);
        most();
        unusualTexts();
        faultStays();
    }

    private static String repeated(String line, int times) {
        StringBuilder all = new StringBuilder();
        for (int k = 0; k < times; k++) {
            all.append(';').append(line.replace('#', (char) ('a' + k)));
        }
        return all.substring(1);
    }

    /** FAULT 4: one more than there may be, whatever comes behind that WORD. */
    private static void most() {
        ReasonCloser x = new ReasonCloser();
        String funs = repeated("fun # 0", 8);
        due.is("I: eight fun", Due.read(x, funs), 0);
        due.is("I: eight fun there", x.about(0), 8);
        fault(funs + "; fun", 4, funs.length() + 2);
        fault(funs + ";fun a 9", 4, funs.length() + 1);
        String terms = "fun o 0;" + repeated("term # = o", 14) + ";" + repeated("term z# = o", 10);
        due.is("I: 24 term", Due.read(x, terms), 24);
        fault(terms + ";term a=o", 4, terms.length() + 1);
        String sames = "fun o 0;term p=o;" + repeated("same p p", 12);
        due.is("I: 12 same", Due.read(x, sames), 1);
        due.is("I: 12 same there", x.about(2), 12);
        fault(sames + ";same", 4, sames.length() + 1);
        String diffs = "fun o 0;term p=o;" + repeated("diff p p", 8);
        due.is("I: 8 diff", Due.read(x, diffs), 1);
        due.is("I: 8 diff there", x.about(3), 8);
        fault(diffs + ";diff x y", 4, diffs.length() + 1);
    }

    /** TOKENS need no blanks between them where they can't stand together, and take any number of them. */
    private static void unusualTexts() {
        ReasonCloser x = new ReasonCloser();
        due.is("I: without blanks", Due.read(x, "fun a0;fun g1;term p=a;term q=g(p);same p q"), 2);
        due.is("I: without blanks, GROUPS", x.about(4), 1);
        due.is("I: many blanks", Due.read(x, "   fun   a   0  ; term  p  =  a  ;  diff   p   p   "), 1);
        due.is("I: many blanks, DIFFS", x.about(3), 1);
        due.is("I: six letters", Due.read(x, "fun zzzzzz 0;term aaaaaa=zzzzzz;term aaaaa=zzzzzz"), 2);
        due.is("I: NAMES near the four", Due.read(x, "fun fu 0;fun funn 1;term sam=fu;term ter=funn(sam)"), 2);
        due.is("I: three PARTS", Due.read(x, "fun a 0;fun k 3;term p=a;term q=k ( p , p , p )"), 2);
    }

    private static void faultStays() {
        ReasonCloser x = Due.object("fun a 0");
        Due.read(x, "fun a 4");
        due.is("4: fault() ahead", x.fault(), 2);
        x.text(999);
        due.is("4: behind text() by 2", x.fault(), 2);
        due.is("5: behind text() by 2", x.where(), -1);
        Due.read(x, "fun a 4");
        x.size();
        x.undo();
        x.base();
        x.core();
        x.free();
        x.feed(0, 0, 0, 0, 0);
        x.fault();
        x.trouble();
        due.is("5: behind calls that may not be refused", x.where(), 6);
        x.about(0);
        due.is("5: behind one that may be, and wasn't", x.where(), -1);
        due.is("3: the TAPE's rest", x.text(0), -1);
        due.is("4: of an empty text", x.fault(), 1);
        due.is("5: of an empty text", x.where(), 0);
        Due.read(x, "fun a 0");
        due.is("4: without one", x.fault(), 0);
        due.is("5: without one", x.where(), -1);
    }

    // promise 6
    private static void facesOfWhat() {
        ReasonCloser x = Due.object(LEAVES + ";term t=g(p);term u=g(q);same p q;diff r s;diff u t;diff p q");
        due.told(x, "6: FUNCTIONS", x.about(0), 6);
        due.told(x, "6: TERMS", x.about(1), 6);
        due.told(x, "6: SAMES", x.about(2), 1);
        due.told(x, "6: DIFFS", x.about(3), 3);
        due.told(x, "6: GROUPS", x.about(4), 4);
        due.told(x, "6: acts", x.about(5), 0);
        due.told(x, "6: JOINS", x.about(6), 2);
        due.told(x, "6: the first that CLASHES", x.about(7), 1);
        due.refused(x, "6: about(-1)", x.about(-1), 1);
        due.refused(x, "6: about(8)", x.about(8), 1);
        due.refused(x, "6: about(LOW)", x.about(LOW), 1);
        due.refused(x, "6: about(TOP)", x.about(TOP), 1);
    }

    // promise 7
    private static void functions() {
        ReasonCloser x = Due.object(LEAVES + ";term t=g(p);term u=g(q);term v=g(r);term w=h(p,q);same p q");
        due.told(x, "7: a takes", x.function(0, 0), 0);
        due.told(x, "7: h takes", x.function(5, 0), 2);
        due.told(x, "7: TERMS of g", x.function(4, 1), 3);
        due.told(x, "7: GROUPS of g", x.function(4, 2), 2);
        due.told(x, "7: TERMS of h", x.function(5, 1), 1);
        due.is("7: join", x.join(4, 7), 5);
        due.told(x, "7: GROUPS of h, one with g's", x.function(5, 2), 1);
        due.told(x, "7: GROUPS of g", x.function(4, 2), 2);
        due.refused(x, "7: function(6, 0)", x.function(6, 0), 1);
        due.refused(x, "7: function(-1, 0)", x.function(-1, 0), 1);
        due.refused(x, "7: function(0, 3)", x.function(0, 3), 1);
        due.refused(x, "7: function(0, -1)", x.function(0, -1), 1);
        due.refused(x, "7: function(TOP, TOP)", x.function(TOP, TOP), 1);
        x = Due.object("fun z 3");
        due.told(x, "7: z takes", x.function(0, 0), 3);
        due.told(x, "7: TERMS of z", x.function(0, 1), 0);
        due.told(x, "7: GROUPS of z", x.function(0, 2), 0);
    }

    // promise 8
    private static void terms() {
        ReasonCloser x = Due.object(LEAVES + ";term t=g(p);term u=h(q,q);term v=h(t,s);same q p;same s r");
        due.told(x, "8: FUNCTION", x.term(5, 0), 5);
        due.told(x, "8: LEAD of q", x.term(1, 1), 0);
        due.told(x, "8: LEAD of s", x.term(3, 1), 2);
        due.told(x, "8: LEAD of p", x.term(0, 1), 0);
        due.told(x, "8: how many in p's GROUP", x.term(0, 2), 2);
        due.told(x, "8: how many in v's GROUP", x.term(6, 2), 1);
        due.told(x, "8: with a PART in p's GROUP", x.term(0, 3), 2);
        due.told(x, "8: with a PART in r's GROUP", x.term(2, 3), 1);
        due.told(x, "8: with a PART in v's GROUP", x.term(6, 3), 0);
        due.told(x, "8: p is 0 deep", x.term(0, 4), 0);
        due.told(x, "8: u is 1 deep", x.term(5, 4), 1);
        due.told(x, "8: v is 2 deep", x.term(6, 4), 2);
        due.told(x, "8: p hangs on", x.term(0, 5), 1);
        due.told(x, "8: q hangs on none", x.term(1, 5), -2);
        due.told(x, "8: r hangs on", x.term(2, 5), 3);
        due.refused(x, "8: term(7, 0)", x.term(7, 0), 1);
        due.refused(x, "8: term(-1, 0)", x.term(-1, 0), 1);
        due.refused(x, "8: term(0, 6)", x.term(0, 6), 1);
        due.refused(x, "8: term(0, -1)", x.term(0, -1), 1);
        due.refused(x, "8: term(LOW, TOP)", x.term(LOW, TOP), 1);
    }

    // promises 9, 10, 11
    private static void partsAndPairs() {
        ReasonCloser x = Due.object(LEAVES + ";term v=h(s,q);same p q;same q r;same r p;same s s;diff p r;diff s p");
        due.told(x, "9: first PART", x.partOf(4, 0), 3);
        due.told(x, "9: second PART", x.partOf(4, 1), 1);
        due.told(x, "9: beyond", x.partOf(4, 2), -2);
        due.told(x, "9: far beyond", x.partOf(4, TOP), -2);
        due.told(x, "9: of one without", x.partOf(0, 0), -2);
        due.refused(x, "9: partOf(4, -1)", x.partOf(4, -1), 1);
        due.refused(x, "9: partOf(5, 0)", x.partOf(5, 0), 1);
        due.refused(x, "9: partOf(-1, 0)", x.partOf(-1, 0), 1);
        due.told(x, "10: first", x.sameOf(1, 0), 1);
        due.told(x, "10: second", x.sameOf(1, 1), 2);
        due.told(x, "10: BY all others", x.sameOf(1, 2), 1);
        due.told(x, "10: of one TERM and itself", x.sameOf(3, 2), 1);
        due.refused(x, "10: sameOf(4, 0)", x.sameOf(4, 0), 1);
        due.refused(x, "10: sameOf(-1, 0)", x.sameOf(-1, 0), 1);
        due.refused(x, "10: sameOf(0, 3)", x.sameOf(0, 3), 1);
        due.refused(x, "10: sameOf(0, -1)", x.sameOf(0, -1), 1);
        due.told(x, "11: first", x.diffOf(1, 0), 3);
        due.told(x, "11: second", x.diffOf(1, 1), 0);
        due.told(x, "11: CLASHES", x.diffOf(0, 2), 1);
        due.told(x, "11: doesn't", x.diffOf(1, 2), 0);
        due.refused(x, "11: diffOf(2, 0)", x.diffOf(2, 0), 1);
        due.refused(x, "11: diffOf(-1, 0)", x.diffOf(-1, 0), 1);
        due.refused(x, "11: diffOf(0, 3)", x.diffOf(0, 3), 1);
        due.refused(x, "11: diffOf(0, -1)", x.diffOf(0, -1), 1);
        x = Due.object(LEAVES + ";same p q");
        due.told(x, "10: not BY all others", x.sameOf(0, 2), 0);
        // alone by what they are made of
        x = Due.object(LEAVES + ";term t=g(p);term u=g(q);same t u;same p q");
        due.told(x, "10: BY the other, by PARTS", x.sameOf(0, 2), 1);
        due.told(x, "10: not the other way", x.sameOf(1, 2), 0);
        due.is("6: JOINS: the SAME of t, u came first", x.about(6), 2);
        due.told(x, "12: its SAME", x.joinOf(0, 2), 0);
    }

    // promises 12, 13, 14
    private static void forests() {
        ReasonCloser x = Due.object(LEAVES + ";term t=g(p);term u=g(q);term v=g(r);same s r;same q p;same r q;same s p");
        due.is("12: JOINS", x.about(6), 5);
        join(x, 0, 3, 2, 0);
        join(x, 1, 1, 0, 1);
        join(x, 2, 4, 5, -2);
        join(x, 3, 2, 1, 2);
        join(x, 4, 4, 6, -2);
        due.refused(x, "12: joinOf(5, 0)", x.joinOf(5, 0), 1);
        due.refused(x, "12: joinOf(-1, 0)", x.joinOf(-1, 0), 1);
        due.refused(x, "12: joinOf(0, 3)", x.joinOf(0, 3), 1);
        due.refused(x, "12: joinOf(0, -1)", x.joinOf(0, -1), 1);
        // p hangs on q, q on r, r on s
        due.told(x, "13: of s", x.height(3), 0);
        due.told(x, "13: of r", x.height(2), 1);
        due.told(x, "13: of q", x.height(1), 2);
        due.told(x, "13: of p", x.height(0), 3);
        due.refused(x, "13: height(7)", x.height(7), 1);
        due.refused(x, "13: height(-1)", x.height(-1), 1);
        due.told(x, "14: on t the first", x.hung(4, 0), 5);
        due.told(x, "14: on t the second", x.hung(4, 1), 6);
        due.told(x, "14: not so many", x.hung(4, 2), -2);
        due.told(x, "14: far from so many", x.hung(4, TOP), -2);
        due.told(x, "14: on p none", x.hung(0, 0), -2);
        due.refused(x, "14: hung(4, -1)", x.hung(4, -1), 1);
        due.refused(x, "14: hung(7, 0)", x.hung(7, 0), 1);
        due.refused(x, "14: hung(-1, 0)", x.hung(-1, 0), 1);
        // the way from the second is turned round: q hung on p, r on q; then r hangs on s
        x = Due.object(LEAVES + ";same p q;same q r;same s r");
        due.is("II: r hangs on s", x.term(2, 5), 3);
        due.is("II: q hangs on r", x.term(1, 5), 2);
        due.is("II: p hangs on q", x.term(0, 5), 1);
        due.is("II: s hangs on none", x.term(3, 5), -2);
        due.is("17: by the turned way", x.reasons(0, 3), 7);
        due.is("17: by a piece of it", x.reasons(2, 0), 3);
        due.is("17: by the last of it", x.reasons(2, 3), 4);
    }

    private static void join(ReasonCloser x, int k, int a, int b, int same) {
        due.told(x, "12: JOIN " + k + " first", x.joinOf(k, 0), a);
        due.told(x, "12: JOIN " + k + " second", x.joinOf(k, 1), b);
        due.told(x, "12: JOIN " + k + " its SAME", x.joinOf(k, 2), same);
    }

    // promises 15, 16
    private static void equalAndApart() {
        ReasonCloser x = Due.object(LEAVES + ";term t=g(p);term u=g(q);same p q;diff t r;diff s s");
        due.told(x, "15: by a SAME", x.equal(1, 0), 1);
        due.told(x, "15: by PARTS", x.equal(4, 5), 1);
        due.told(x, "15: itself", x.equal(3, 3), 1);
        due.told(x, "15: not", x.equal(0, 4), 0);
        due.refused(x, "15: equal(6, 0)", x.equal(6, 0), 1);
        due.refused(x, "15: equal(0, 6)", x.equal(0, 6), 1);
        due.refused(x, "15: equal(-1, 0)", x.equal(-1, 0), 1);
        due.refused(x, "15: equal(0, LOW)", x.equal(0, LOW), 1);
        due.told(x, "16: told", x.apart(4, 2), 1);
        due.told(x, "16: one with a told one", x.apart(5, 2), 1);
        due.told(x, "16: the other way about", x.apart(2, 5), 1);
        due.told(x, "16: from itself", x.apart(3, 3), 1);
        due.told(x, "16: not from itself", x.apart(2, 2), 0);
        due.told(x, "16: not", x.apart(0, 2), 0);
        due.told(x, "16: two that are one", x.apart(0, 1), 0);
        due.refused(x, "16: apart(6, 0)", x.apart(6, 0), 1);
        due.refused(x, "16: apart(0, -1)", x.apart(0, -1), 1);
    }

    private interface Asked {
        int of(ReasonCloser x, int t, int u);
    }

    /** Of a call that asks why two TERMS are one: refused with 1 and with 5, and 0 or so for one and itself. */
    private static void refusals(String call, Asked asked, int ofItself) {
        ReasonCloser x = Due.object(LEAVES + ";same p q");
        due.refused(x, call + " 4, 0", asked.of(x, 4, 0), 1);
        due.refused(x, call + " 0, 4", asked.of(x, 0, 4), 1);
        due.refused(x, call + " -1, 0", asked.of(x, -1, 0), 1);
        due.refused(x, call + " 2, LOW", asked.of(x, 2, LOW), 1);
        due.refused(x, call + " TOP, 2", asked.of(x, TOP, 2), 1);
        due.refused(x, call + " 0, 2", asked.of(x, 0, 2), 5);
        due.refused(x, call + " 3, 2", asked.of(x, 3, 2), 5);
        due.told(x, call + " of itself", asked.of(x, 0, 0), ofItself);
        due.told(x, call + " of a lone one", asked.of(x, 3, 3), ofItself);
    }

    // promises 17, 18, 19, 21, 22
    private static void why() {
        refusals("17: reasons", ReasonCloser::reasons, 0);
        refusals("18: pruned", ReasonCloser::pruned, 0);
        refusals("19: fewest", ReasonCloser::fewest, 0);
        refusals("21: since", ReasonCloser::since, 0);
        refusals("22: needed", ReasonCloser::needed, 0);
        // p-q, q-r, r-s, then p-s: by the FOREST three, by the fewest one
        ReasonCloser x = Due.object(LEAVES + ";same p q;same q r;same r s;same p s");
        due.told(x, "17: reasons", x.reasons(0, 3), 7);
        due.told(x, "17: reasons the other way", x.reasons(3, 0), 7);
        due.told(x, "18: pruned", x.pruned(0, 3), 7);
        due.told(x, "19: fewest", x.fewest(0, 3), 8);
        due.told(x, "19: of like many the least", x.fewest(0, 2), 3);
        due.told(x, "21: since", x.since(0, 3), 3);
        due.told(x, "22: needed", x.needed(0, 3), 0);
        due.told(x, "22: needed, another", x.needed(0, 1), 0);
        x = Due.object(LEAVES + ";same p s;same p q;same q r;same r s;same p p");
        due.told(x, "17: reasons are the first way", x.reasons(0, 3), 1);
        due.told(x, "18: pruned from the last one on", x.pruned(0, 3), 1);
        due.told(x, "21: since the first", x.since(0, 3), 1);
        x = Due.object(LEAVES + ";same p q;same p q;same q r");
        due.told(x, "18: pruned", x.pruned(0, 2), 5);
        due.told(x, "19: fewest", x.fewest(0, 2), 5);
        due.told(x, "22: needed", x.needed(0, 2), 4);
        due.told(x, "21: since", x.since(0, 2), 3);
        due.told(x, "21: since", x.since(1, 0), 1);
        // by PARTS: h(p,q) and h(r,s) by p-r and q-s; and their own SAME told last
        x = Due.object(LEAVES + ";term t=h(p,q);term u=h(r,s);same p r;same q s;same t u");
        due.told(x, "17: reasons by PARTS", x.reasons(4, 5), 3);
        due.told(x, "18: pruned keeps the first", x.pruned(4, 5), 3);
        due.told(x, "19: fewest takes its own", x.fewest(4, 5), 4);
        due.told(x, "21: since both", x.since(4, 5), 2);
        due.told(x, "22: needed none", x.needed(4, 5), 0);
        // REASONS need not be least: r joins by a way round
        x = Due.object(LEAVES + ";term t=g(p);term u=g(q);same t r;same r u;same p q;same t s");
        due.told(x, "17: t and u by r", x.reasons(4, 5), 3);
        due.told(x, "18: of t and u", x.pruned(4, 5), 3);
        due.told(x, "19: of t and u", x.fewest(4, 5), 4);
        due.told(x, "17: of s and u", x.reasons(3, 5), 11);
        due.told(x, "18: of s and u", x.pruned(3, 5), 11);
        due.told(x, "19: of s and u", x.fewest(3, 5), 12);
        due.told(x, "22: of s and u", x.needed(3, 5), 8);
        // the same SAME for two PARTS
        x = Due.object(LEAVES + ";term t=h(p,p);term u=h(q,q);term v=h(r,t);term w=h(r,u);same p q");
        due.told(x, "17: the same for both PARTS", x.reasons(4, 5), 1);
        due.told(x, "17: for a PART that is the same", x.reasons(6, 7), 1);
        due.told(x, "26: for both PARTS", x.cost(4, 5), 2);
        // the same SAME on two pieces of a way: t-u by p-q, u-r-v, v-w by p-q
        x = Due.object(LEAVES + ";fun k 2;term t=g(p);term u=g(q);term v=k(s,p);term w=k(s,q);same p q;same u v");
        due.told(x, "17: the same twice on a way", x.reasons(4, 7), 3);
        due.told(x, "17: the other way", x.reasons(7, 4), 3);
        due.told(x, "26: twice on a way", x.cost(4, 7), 3);
        // likewise: a JOIN by PARTS deep below
        x = Due.object(LEAVES + ";term t=g(p);term u=g(q);term v=g(t);term w=g(u);same r s;same p q");
        due.told(x, "17: two levels below", x.reasons(6, 7), 2);
        due.told(x, "22: two levels below", x.needed(6, 7), 2);
    }

    // promises 20, 23, 24
    private static void proofs() {
        refusals("23: many", ReasonCloser::many, 1);
        ReasonCloser x = Due.object(LEAVES + ";term t=g(p);term u=g(q);same p q;same t u;same t r;same r u");
        due.told(x, "20: none", x.proves(0, 4, 5), 0);
        due.told(x, "20: itself by none", x.proves(0, 4, 4), 1);
        due.told(x, "20: by PARTS", x.proves(1, 4, 5), 1);
        due.told(x, "20: by its own", x.proves(2, 4, 5), 1);
        due.told(x, "20: half a way", x.proves(4, 4, 5), 0);
        due.told(x, "20: a way", x.proves(12, 4, 5), 1);
        due.told(x, "20: all", x.proves(15, 4, 5), 1);
        due.told(x, "20: two that aren't one", x.proves(15, 3, 0), 0);
        due.refused(x, "20: a SAME that isn't there", x.proves(16, 4, 5), 2);
        due.refused(x, "20: one below 0", x.proves(-1, 4, 5), 2);
        due.refused(x, "20: LOW", x.proves(LOW, 4, 5), 2);
        due.refused(x, "20: a TERM that isn't there, told first", x.proves(16, 9, 5), 1);
        due.refused(x, "20: a TERM below 0", x.proves(0, 0, -1), 1);
        due.told(x, "23: many", x.many(4, 5), 3);
        due.told(x, "23: one way", x.many(0, 1), 1);
        due.told(x, "23: two ways and more", x.many(2, 5), 3);
        due.is("24: base", x.base(), 5);
        x = Due.object(LEAVES + ";term t=g(p);term u=g(q);same t u;same p q;same p p");
        due.is("24: by PARTS from the last one on", x.base(), 2);
        x = Due.object(LEAVES + ";same p p;same r r");
        due.is("24: none that tells nothing", x.base(), 0);
        x = Due.object(LEAVES + ";same p q;same q r;same p r;same s r");
        due.is("24: a ring without its last", x.base(), 11);
        x = Due.object(LEAVES);
        due.told(x, "20: no SAMES, the empty set", x.proves(0, 0, 0), 1);
        due.refused(x, "20: no SAMES, another set", x.proves(1, 0, 0), 2);
        due.is("24: no SAMES", x.base(), 0);
        // twelve SAMES: all numbers below 4096
        x = Due.object(LEAVES + ";" + repeated("same p q", 12));
        due.told(x, "20: 4095", x.proves(4095, 0, 1), 1);
        due.refused(x, "20: 4096", x.proves(4096, 0, 1), 2);
        due.told(x, "23: twelve ways", x.many(0, 1), 12);
        due.told(x, "19: the first of twelve", x.fewest(0, 1), 1);
        due.told(x, "18: the first of twelve", x.pruned(0, 1), 1);
        due.is("24: the first of twelve", x.base(), 1);
        x = Due.object(LEAVES + ";" + repeated("same p q", 6) + ";" + repeated("same q r", 6));
        due.told(x, "23: six by six", x.many(0, 2), 36);
        due.told(x, "19: the first of each", x.fewest(0, 2), 65);
        due.told(x, "22: none of six", x.needed(0, 2), 0);
    }

    // promises 25, 26, 27
    private static void levelsAndCosts() {
        refusals("25: level", ReasonCloser::level, 0);
        refusals("26: cost", ReasonCloser::cost, 0);
        refusals("27: way", (x, t, u) -> x.way(t, u, 1) == -2 ? 0 : x.way(t, u, 1), 0);
        ReasonCloser x = Due.object(LEAVES + ";term t=g(p);term u=g(q);term v=h(t,t);term w=h(u,t);"
                + "same p q;same q r;same p r;same t s");
        due.told(x, "25: by SAMES", x.level(0, 2), 0);
        due.told(x, "25: by PARTS", x.level(4, 5), 1);
        due.told(x, "25: a way of both", x.level(3, 5), 1);
        due.told(x, "25: by PARTS of PARTS", x.level(6, 7), 2);
        due.told(x, "26: the straight way", x.cost(0, 2), 1);
        due.told(x, "26: by PARTS", x.cost(4, 5), 1);
        due.told(x, "26: SAME and PARTS", x.cost(3, 5), 2);
        due.told(x, "26: of PARTS together", x.cost(6, 7), 1);
        due.told(x, "27: from s the first", x.way(3, 5, 0), 3);
        due.told(x, "27: from s the second", x.way(3, 5, 1), 4);
        due.told(x, "27: from s the third", x.way(3, 5, 2), 5);
        due.told(x, "27: beyond", x.way(3, 5, 3), -2);
        due.told(x, "27: far beyond", x.way(3, 5, TOP), -2);
        due.told(x, "27: of itself", x.way(3, 3, 0), 3);
        due.told(x, "27: of itself beyond", x.way(3, 3, 1), -2);
        due.refused(x, "27: i below 0", x.way(3, 5, -1), 1);
        due.refused(x, "27: i below 0, told ahead of 5", x.way(3, 0, -1), 1);
        due.refused(x, "27: not one", x.way(3, 0, 0), 5);
        // two TERMS of a FUNCTION without PARTS are one for nothing, by level 1
        x = Due.object("fun a 0;fun b 0;term p=a;term q=a;term r=b;term s=b;same p r");
        due.told(x, "25: alike without PARTS", x.level(0, 1), 1);
        due.told(x, "26: alike without PARTS", x.cost(0, 1), 0);
        due.told(x, "23: alike without PARTS", x.many(0, 1), 1);
        due.told(x, "17: alike without PARTS", x.reasons(0, 1), 0);
        due.told(x, "26: a way through them", x.cost(1, 3), 1);
        due.told(x, "27: a way through them", x.way(1, 3, 1), 0);
        due.told(x, "27: a way through them", x.way(1, 3, 2), 2);
        due.told(x, "27: a way through them", x.way(1, 3, 3), 3);
        due.told(x, "25: a way through them", x.level(1, 3), 1);
        // of like sums the fewest TERMS, of these the least TERM next
        x = Due.object("fun a 0;fun b 0;fun c 0;fun d 0;term p=a;term m=a;term q=b;term r=c;term s=d;"
                + "same m s;same p r;same q s;same r s;same p q");
        due.told(x, "26: for nothing to m, then 1", x.cost(0, 4), 1);
        due.told(x, "27: by m", x.way(0, 4, 1), 1);
        due.told(x, "27: by m", x.way(0, 4, 2), 4);
        due.told(x, "27: from q to r, the least next", x.way(2, 3, 1), 0);
        due.told(x, "27: from r to q, the least next", x.way(3, 2, 1), 0);
        x = Due.object(LEAVES + ";same p r;same r s;same q s;same p q");
        due.told(x, "27: the least next", x.way(0, 3, 1), 1);
        due.told(x, "27: the least next, then", x.way(0, 3, 2), 3);
        // a SAME of two that are alike too: the lesser of both
        x = Due.object(LEAVES + ";term t=h(p,q);term u=h(r,s);same p r;same q s;same t u;same p r");
        due.told(x, "26: its own SAME is cheaper", x.cost(4, 5), 1);
        due.told(x, "25: its own SAME", x.level(4, 5), 0);
        x = Due.object(LEAVES + ";term t=h(p,q);term u=h(r,s);same p r;same q s");
        due.told(x, "26: PARTS together", x.cost(4, 5), 2);
    }

    /** COSTS, LEVELS, ways follow each act, each undo() and each text. */
    private static void costsFollow() {
        ReasonCloser x = Due.object(LEAVES + ";same p q;same q r");
        due.told(x, "26: ahead", x.cost(0, 2), 2);
        x.join(0, 2);
        due.told(x, "26: behind join()", x.cost(0, 2), 1);
        due.told(x, "27: behind join()", x.way(0, 2, 1), 2);
        x.undo();
        due.told(x, "26: behind undo()", x.cost(0, 2), 2);
        due.told(x, "27: behind undo()", x.way(0, 2, 1), 1);
        x.make(4, 0, 0, 0);
        x.make(4, 2, 0, 0);
        due.told(x, "26: of made TERMS", x.cost(4, 5), 2);
        x.part(0, 3);
        due.told(x, "26: behind part()", x.cost(4, 5), 2);
        due.told(x, "3: another text", Due.read(x, LEAVES + ";same r p;same s q;same s r"), 4);
        due.told(x, "26: behind another text", x.cost(0, 1), 3);
        due.told(x, "27: behind another text", x.way(0, 1, 1), 2);
        Due.read(x, "fun");
        due.told(x, "26: behind a FAULT", x.cost(0, 1), 3);
    }

    /** Each level costs twice, then three times the one below: the sums stop at 1,000,000,000. */
    private static void capsOfCosts() {
        ReasonCloser x = Due.object("fun a 0;fun b 0;fun k 3;term p=a;term q=b;same p q");
        for (int k = 0; k < 11; k++) {
            int t = 2 * k;
            due.is("35: first of level " + k, x.make(2, t, t, t), t + 2);
            due.is("35: second of level " + k, x.make(2, t + 1, t + 1, t + 1), t + 3);
        }
        int sum = 1;
        for (int k = 0; k < 11; k++) {
            due.told(x, "26: level " + k, x.cost(2 * k, 2 * k + 1), sum);
            due.told(x, "25: level " + k, x.level(2 * k, 2 * k + 1), k);
            sum *= 3;
        }
        due.told(x, "17: the last level", x.reasons(22, 23), 1);
        due.refused(x, "35: a 25th TERM", x.make(0, 0, 0, 0), 3);
    }

    // promise 28
    private static void cores() {
        ReasonCloser x = Due.object(LEAVES + ";same p q;same q r;same p s;diff p r;diff r p;diff q q");
        due.is("28: a TERM from itself by none", x.core(), 0);
        x = Due.object(LEAVES + ";same p q;same q r;same p s;diff p r;diff r s");
        due.is("28: the fewest", x.core(), 3);
        x = Due.object(LEAVES + ";same p q;same q r;same p s;diff p r;diff p s");
        due.is("28: of a later DIFF", x.core(), 4);
        x = Due.object(LEAVES + ";same p q;same q r;same s r;diff r s;diff p q");
        due.is("28: of like many the least", x.core(), 1);
        x = Due.object(LEAVES + ";same p q;diff p r");
        due.is("28: none CLASHES", x.core(), -2);
        x.about(99);
        x.core();
        due.is("28: trouble() stays", x.trouble(), 1);
        x = Due.object(LEAVES + ";term t=g(p);term u=g(q);same t r;same r u;same p q;diff t u");
        due.is("28: by PARTS", x.core(), 4);
    }

    // promises 29, 30, 31, 32
    private static void onPaper() {
        ReasonCloser x = Due.object(LEAVES + ";term t=g(p);term u=g(q);term v=g(t);term w=g(u);same r s;diff v w;diff p r");
        due.told(x, "29: GROUPS", x.would(0, 1, 0), 4);
        due.told(x, "29: would CLASH", x.would(0, 1, 1), 0);
        due.told(x, "29: JOINS more", x.would(0, 1, 2), 3);
        due.told(x, "29: another DIFF", x.would(3, 0, 1), 1);
        due.told(x, "29: of one and itself, GROUPS", x.would(0, 0, 0), 7);
        due.told(x, "29: of two that are one, none CLASHES", x.would(2, 3, 1), -2);
        due.told(x, "29: of two that are one, JOINS", x.would(2, 3, 2), 0);
        due.refused(x, "29: would(8, 0, 0)", x.would(8, 0, 0), 1);
        due.refused(x, "29: would(0, -1, 0)", x.would(0, -1, 0), 1);
        due.refused(x, "29: would(0, 1, 3)", x.would(0, 1, 3), 1);
        due.refused(x, "29: would(0, 1, -1)", x.would(0, 1, -1), 1);
        next(x, 1, 0, 0, 1, 0, 1);
        next(x, 1, 0, 1, 4, 5, 0);
        next(x, 1, 0, 2, 6, 7, 0);
        next(x, 1, 0, 3, -2, -2, -2);
        next(x, 1, 0, TOP, -2, -2, -2);
        next(x, 2, 3, 0, -2, -2, -2);
        next(x, 5, 5, 0, -2, -2, -2);
        due.refused(x, "30: next(8, 0, 0, 0)", x.next(8, 0, 0, 0), 1);
        due.refused(x, "30: next(0, 8, 0, 0)", x.next(0, 8, 0, 0), 1);
        due.refused(x, "30: next(0, 1, -1, 0)", x.next(0, 1, -1, 0), 1);
        due.refused(x, "30: next(0, 1, 0, 3)", x.next(0, 1, 0, 3), 1);
        due.refused(x, "30: next(0, 1, 0, -1)", x.next(0, 1, 0, -1), 1);
        // 8 TERMS make 28 pairs, of which one is one; p-q, t-u, v-w make v, w one, p-r and p-s clash
        due.is("32: free", x.free(), 27 - 5);
        due.is("29: on paper nothing changes", x.about(6) + 10 * x.about(2) + 100 * x.about(5), 11);
        x.join(0, 1);
        due.is("32: where one CLASHES, none", x.free(), 0);
        due.told(x, "31: GROUPS without it", x.without(1, 0), 7);
        due.told(x, "31: none CLASHES without it", x.without(1, 1), -2);
        due.told(x, "31: GROUPS without the other", x.without(0, 0), 5);
        due.told(x, "31: CLASHES without the other", x.without(0, 1), 0);
        due.refused(x, "31: without(2, 0)", x.without(2, 0), 1);
        due.refused(x, "31: without(-1, 0)", x.without(-1, 0), 1);
        due.refused(x, "31: without(0, 2)", x.without(0, 2), 1);
        due.refused(x, "31: without(0, -1)", x.without(0, -1), 1);
        // without PARTS that were one by another way too
        x = Due.object(LEAVES + ";term t=g(p);term u=g(q);same p q;same p r;same r q");
        due.told(x, "31: by a way round", x.without(0, 0), 3);
        due.is("32: no DIFF, all pairs that aren't one", x.free(), 15 - 4);
        x.about(99);
        x.free();
        due.is("32: trouble() stays", x.trouble(), 1);
        // a 13th
        x = Due.object(LEAVES + ";term t=g(r);term u=g(s);" + repeated("same p q", 12));
        due.told(x, "29: a 13th", x.would(2, 3, 0), 3);
        next(x, 2, 3, 0, 2, 3, 1);
        next(x, 2, 3, 1, 4, 5, 0);
        due.refused(x, "33: a 13th", x.join(2, 3), 3);
        // pairs in order: the least first, then the least second
        x = Due.object("fun a 0;fun b 0;fun g 1;fun k 1;term p=a;term q=b;term kq=k(q);term gp=g(p);term kp=k(p);term gq=g(q)");
        next(x, 0, 1, 1, 2, 4, 0);
        next(x, 0, 1, 2, 3, 5, 0);
    }

    private static void next(ReasonCloser x, int t, int u, int i, int a, int b, int told) {
        String call = "30: next(" + t + ", " + u + ", " + i + ", ";
        due.told(x, call + "0)", x.next(t, u, i, 0), a);
        due.told(x, call + "1)", x.next(t, u, i, 1), b);
        due.told(x, call + "2)", x.next(t, u, i, 2), told);
    }

    // promises 33, 34, 35, 36
    private static void acts() {
        ReasonCloser x = Due.object(LEAVES + ";term t=g(p);term u=g(q);diff t u");
        due.told(x, "33: join", x.join(1, 0), 4);
        due.is("33: its first", x.sameOf(0, 0), 1);
        due.is("33: its second", x.sameOf(0, 1), 0);
        due.is("33: p hangs on q", x.term(0, 5), 1);
        due.is("33: JOINS", x.about(6), 2);
        due.told(x, "33: of one and itself", x.join(2, 2), 4);
        due.is("33: SAMES", x.about(2), 2);
        due.refused(x, "33: join(6, 0)", x.join(6, 0), 1);
        due.refused(x, "33: join(0, -1)", x.join(0, -1), 1);
        due.told(x, "34: part that doesn't CLASH", x.part(2, 3), 0);
        due.told(x, "34: part that CLASHES", x.part(5, 4), 1);
        due.refused(x, "34: part(6, 0)", x.part(6, 0), 1);
        due.refused(x, "34: part(0, LOW)", x.part(0, LOW), 1);
        due.told(x, "35: make h(r, s)", x.make(5, 2, 3, -7), 6);
        due.told(x, "35: make a", x.make(0, 99, -1, LOW), 7);
        due.is("35: one with p for nothing", x.equal(7, 0), 1);
        due.is("35: it hangs on p", x.term(7, 5), 0);
        due.told(x, "35: make g of it", x.make(4, 7, 99, 99), 8);
        due.is("35: JOINS", x.about(6), 4);
        due.is("35: one with t", x.equal(8, 4), 1);
        due.refused(x, "35: no such FUNCTION", x.make(6, 0, 0, 0), 1);
        due.refused(x, "35: FUNCTION -1", x.make(-1, 0, 0, 0), 1);
        due.refused(x, "35: no such first PART", x.make(4, 9, 0, 0), 1);
        due.refused(x, "35: no such second PART", x.make(5, 0, 9, 0), 1);
        due.refused(x, "35: PART below 0", x.make(5, -1, 0, 0), 1);
        due.is("36: acts", x.about(5), 7);
        for (int k = 6; k >= 0; k--) {
            due.yes("36: undo to " + k, x.undo());
            due.is("36: acts then", x.about(5), k);
        }
        due.yes("36: none left", !x.undo());
        due.is("36: TERMS", x.about(1), 6);
        due.is("36: SAMES", x.about(2), 0);
        due.is("36: DIFFS", x.about(3), 1);
        due.is("36: GROUPS", x.about(4), 6);
        due.is("36: JOINS", x.about(6), 0);
        due.is("36: on which p hangs", x.term(0, 5), -2);
        due.is("36: of t, u", x.equal(4, 5), 0);
        undoneLatestFirst();
        full();
    }

    private static void undoneLatestFirst() {
        ReasonCloser x = Due.object(LEAVES + ";same p q;same q r");
        x.join(3, 2);
        due.is("36: turned round", x.term(0, 5), 1);
        x.part(0, 3);
        due.is("36: CLASHES", x.about(7), 0);
        due.yes("36: the DIFF first", x.undo());
        due.is("36: no DIFF", x.about(3), 0);
        due.is("36: the SAME is still there", x.about(2), 3);
        due.yes("36: then the SAME", x.undo());
        due.is("36: as it was: p", x.term(0, 5), -2);
        due.is("36: as it was: q", x.term(1, 5), 0);
        due.is("36: as it was: r", x.term(2, 5), 1);
        due.is("36: as it was: s", x.term(3, 5), -2);
        due.is("36: as it was: since", x.since(0, 2), 2);
        x.join(9, 9);
        due.is("36: trouble() ahead of undo()", x.trouble(), 1);
        due.yes("36: nothing to undo", !x.undo());
        due.is("36: trouble() behind undo()", x.trouble(), 1);
        x.make(0, 0, 0, 0);
        due.is("36: a made TERM", x.cost(0, 4), 0);
        x.undo();
        x.make(4, 0, 0, 0);
        due.refused(x, "36: another made TERM", x.cost(0, 4), 5);
        due.is("36: another made TERM's cost", x.cost(4, 4), 0);
    }

    private static void full() {
        ReasonCloser x = Due.object(LEAVES);
        for (int k = 0; k < 12; k++) {
            due.told(x, "33: SAME " + k, x.join(0, 1), 3);
        }
        due.refused(x, "33: a 13th SAME", x.join(2, 3), 3);
        due.refused(x, "33: a 13th SAME of none", x.join(2, 4), 1);
        due.is("33: GROUPS", x.about(4), 3);
        for (int k = 0; k < 8; k++) {
            due.told(x, "34: DIFF " + k, x.part(2, 3), 0);
        }
        due.refused(x, "34: a ninth DIFF", x.part(2, 3), 3);
        due.refused(x, "34: a ninth DIFF of none", x.part(-1, 3), 1);
        for (int k = 4; k < 24; k++) {
            due.told(x, "35: TERM " + k, x.make(4, k - 1, 0, 0), k);
        }
        due.refused(x, "35: a 25th TERM", x.make(4, 23, 0, 0), 3);
        due.refused(x, "35: a 25th TERM of no FUNCTION", x.make(9, 23, 0, 0), 1);
        due.refused(x, "35: a 25th TERM of no PART", x.make(4, 24, 0, 0), 1);
        due.is("36: acts", x.about(5), 40);
        due.is("8: how deep", x.term(23, 4), 20);
        for (int k = 0; k < 40; k++) {
            due.yes("36: undo", x.undo());
        }
        due.yes("36: no undo", !x.undo());
        due.is("36: all undone", x.about(1) * 100 + x.about(2) * 10 + x.about(3), 400);
    }

    private static int named(ReasonCloser x, int n) {
        try {
            return x.named(n);
        } catch (NoSuchElementException none) {
            return -99;
        }
    }

    private static void name(ReasonCloser x, String tape, int n, int want) {
        Due.feed(x, tape);
        due.is("37: named(" + n + ") of " + tape, named(x, n), want);
        due.is("37: the TAPE stays", x.size(), (tape.length() + 19) / 20 * 20);
        x.text(x.size());
    }

    // promise 37
    private static void names() {
        ReasonCloser x = Due.object("fun a 0;fun b 0;term p=a;term abcdef=b;term abcde=b");
        due.is("37: of an empty TAPE", named(x, 0), -99);
        due.is("37: more than there are", named(x, 1), -99);
        due.is("37: below 0", named(x, -1), -99);
        due.is("37: LOW", named(x, LOW), -99);
        name(x, "p", 1, 0);
        name(x, "p", 20, 0);
        name(x, "p", 21, -99);
        name(x, "p", 0, -99);
        name(x, "  p ", 4, 0);
        name(x, "  p ", 3, 0);
        name(x, "  p ", 2, -99);
        name(x, "abcdef", 6, 1);
        name(x, "abcdef", 5, 2);
        name(x, "abcdef", 4, -99);
        name(x, "abcdefg", 7, -99);
        name(x, "abcdefabcdefabcdefabcdef", 24, -99);
        name(x, "p p", 3, -99);
        name(x, "p p", 2, 0);
        name(x, "p;", 2, -99);
        name(x, "ab cdef", 7, -99);
        name(x, "a", 1, -99);
        name(x, "P", 1, -99);
        name(x, "fun", 3, -99);
        name(x, "   ", 3, -99);
        name(x, "" + (char) 0, 1, -99);
        name(x, "p" + (char) 0, 2, -99);
        x.make(0, 0, 0, 0);
        name(x, "p", 1, 0);
        name(x, " ", 1, -99);
        name(x, "a", 1, -99);
        x = Due.object("fun o 0;term a=o;term b=o");
        name(x, "a", 1, 0);
        name(x, "a;", 2, -99);
        name(x, "a a", 3, -99);
        name(x, "b a", 3, -99);
        name(x, "b", 1, 1);
        x.about(99);
        Due.feed(x, "p");
        named(x, 1);
        named(x, 2);
        named(x, 0);
        due.is("37: trouble() stays", x.trouble(), 1);
        x.text(1);
        due.is("37: where() ahead", x.where(), 0);
        named(x, 1);
        due.is("37: where() stays", x.where(), 0);
        Due.read(x, "fun q 0;term r=q");
        name(x, "b", 1, -99);
        name(x, "r", 1, 0);
    }

    // promise 39
    private static void troubles() {
        ReasonCloser x = Due.object(LEAVES + ";same p q");
        x.text(-5);
        due.is("39: a number", x.trouble(), 2);
        due.is("39: trouble() itself stays", x.trouble(), 2);
        x.base();
        x.core();
        x.free();
        x.undo();
        x.size();
        x.fault();
        x.where();
        x.feed(0, 0, 0, 0, 0);
        due.is("39: those that may not be refused", x.trouble(), 2);
        x.reasons(0, 2);
        due.is("39: not so", x.trouble(), 5);
        x.reasons(0, 1);
        due.is("39: it wasn't", x.trouble(), 0);
        x.reasons(0, 4);
        due.is("39: none such", x.trouble(), 1);
        x.text(20);
        due.is("39: a FAULT", x.trouble(), 4);
        x.join(0, 1);
        due.is("39: an act", x.trouble(), 0);
    }
}
