/** Objects in states that tests begin with. */
final class States {
    private States() {
    }

    /** Nothing told. */
    static ReasonCloser empty() {
        return new ReasonCloser();
    }

    /** One FUNCTION, no TERM. */
    static ReasonCloser bare() {
        return Due.object("fun a 0");
    }

    /** Six TERMS, all kinds of facts, acts of each kind, and a right TEXT on THE TAPE. */
    static ReasonCloser mixed() {
        ReasonCloser x = Due.object("fun a 0;fun b 0;fun c 0;fun g 1;fun h 2;fun k 3;term f=a;term fu=b;term r=c;"
                + "term s=g(f);term t=g(fu);same f fu;same r s;diff f r;diff s t");
        x.make(5, 2, 3, 4);
        x.part(0, 5);
        x.join(5, 2);
        x.join(1, 0);
        Due.feed(x, "fun x 0;term y=x");
        return x;
    }

    /** 24 TERMS that are one with none but themselves: constants 0 to 3, g of each 4 to 7, h of each with each 8 to 23. */
    static ReasonCloser lone() {
        ReasonCloser x = Due.object("fun a 0;fun b 0;fun c 0;fun d 0;fun g 1;fun h 2;term p=a;term q=b;term r=c;term s=d");
        for (int t = 0; t < 4; t++) {
            x.make(4, t, 0, 0);
        }
        for (int t = 0; t < 16; t++) {
            x.make(5, t / 4, t % 4, 0);
        }
        return x;
    }

    /** Of those that are lone, 4 to 16 one behind the other by twelve SAMES: each of them is needed from end to end. */
    static ReasonCloser chain() {
        ReasonCloser x = lone();
        for (int k = 0; k < 12; k++) {
            x.join(4 + k, 5 + k);
        }
        return x;
    }

    /** A constant and 23 TERMS each of which is made of the one ahead, by a FUNCTION that takes 3: all lone. */
    static ReasonCloser tower() {
        ReasonCloser x = Due.object("fun a 0;fun g 3;term p=a");
        for (int t = 0; t < 23; t++) {
            x.make(1, t, t, t);
        }
        return x;
    }

    /**
     * Constants 0 and 1, then 22 TERMS one behind the other: two of each kind (0 or 1 as each PART of a FUNCTION that takes 2
     * or 3), which are one for nothing, and ten SAMES from kind to kind.
     */
    static ReasonCloser longest() {
        ReasonCloser x = Due.object("fun a 0;fun b 0;fun h 2;fun k 3;term c=a;term e=b");
        for (int t = 0; t < 22; t++) {
            int kind = t / 2;
            int bits = kind < 3 ? kind << 1 : kind - 3;
            x.make(kind < 3 ? 2 : 3, bits >> 2 & 1, bits >> 1 & 1, bits & 1);
        }
        for (int t = 3; t < 23; t += 2) {
            x.join(t, t + 1);
        }
        return x;
    }

    /** All that there may be: 8 FUNCTIONS, 24 TERMS, 12 SAMES, 8 DIFFS, 500 bytes. */
    static ReasonCloser full() {
        ReasonCloser x = Due.object("fun a 0;fun b 0;fun c 0;fun d 0;fun e 0;fun g 1;fun h 2;fun k 3;term f=a;term fu=b;"
                + "term r=c;term s=d;term t=e;same f fu;same fu f;diff f r;diff fu s");
        for (int t = 5; t < 24; t++) {
            x.make(5 + t % 3, t - 5, t - 4, t - 3);
        }
        for (int k = 2; k < 12; k++) {
            x.join(k % 5, (k * k + 1) % 24);
        }
        for (int k = 2; k < 8; k++) {
            x.part(k, 23 - k);
        }
        Due.feed(x, "fun x 0;term y=x");
        for (int k = 1; k < 25; k++) {
            x.feed(0x20202020, 0x20202020, 0x20202020, 0x20202020, 0x20202020);
        }
        return x;
    }
}
