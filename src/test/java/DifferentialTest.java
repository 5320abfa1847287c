import java.util.NoSuchElementException;
import java.util.Random;

/** Random runs of calls, each asked of the class and of the naive model; the seeds are fixed, so each run is the same. */
public final class DifferentialTest {
    private static final int THROWN = -77;
    private static final Due due = new Due();

    private final Random random;
    private final ReasonCloser x = new ReasonCloser();
    private final NaiveCloser naive = new NaiveCloser();
    private final String run;
    private final int mostSames;
    private int calls;

    private DifferentialTest(String run, long seed, int mostSames) {
        this.run = run + " " + seed;
        this.random = new Random(seed);
        this.mostSames = mostSames;
    }

    public static void main(String[] args) {
        int times = args.length > 0 ? Integer.parseInt(args[0]) : 1;
        for (int seed = 0; seed < 120 * times && due.wrong() < 50; seed++) {
            new DifferentialTest("small", seed, 5).runOfCalls(400);
        }
        for (int seed = 0; seed < 10 * times && due.wrong() < 50; seed++) {
            new DifferentialTest("large", seed, 12).runOfCalls(250);
        }
        for (int seed = 0; seed < 30 * times && due.wrong() < 50; seed++) {
            new DifferentialTest("towers", seed, 4).runOfTower();
        }
        for (int seed = 0; seed < 250 * times && due.wrong() < 50; seed++) {
            new DifferentialTest("texts", seed, 4).runOfTexts();
        }
        due.end();
    }

    private void is(String call, int got, int want) {
        due.is("run " + run + ", call " + calls + ": " + call, got, want);
    }

    private void runOfCalls(int most) {
        read(anyText());
        while (calls < most && due.wrong() < 50) {
            if (random.nextInt(100) == 0) {
                read(random.nextBoolean() ? anyText() : broken(anyText()));
            }
            act();
            for (int k = random.nextInt(12); k >= 0; k--) {
                ask();
                tell();
            }
        }
    }

    /** A tower alone, then asked of many pairs what costs and ways there are. */
    private void runOfTower() {
        read(textOfTower());
        while (calls < 480 && due.wrong() < 50) {
            int t = some(terms());
            int u = some(terms());
            is("cost(" + t + ", " + u + ")", x.cost(t, u), naive.cost(t, u));
            is("level(" + t + ", " + u + ")", x.level(t, u), naive.level(t, u));
            for (int i = 0; i < 4; i++) {
                is("way(" + t + ", " + u + ", " + i + ")", x.way(t, u, i), naive.way(t, u, i));
            }
            calls += 6;
            if (random.nextInt(12) == 0) {
                act();
            }
        }
    }

    private void runOfTexts() {
        while (calls < 300 && due.wrong() < 50) {
            String text = anyText();
            read(random.nextInt(6) == 0 ? text : broken(text));
            for (int what = 0; what < 8; what++) {
                is("about(" + what + ")", x.about(what), naive.about(what));
                calls++;
            }
            tryName();
            tell();
        }
    }

    // ---- texts

    private void feed(String text) {
        for (int at = 0; at < text.length(); at += 20) {
            int[] n = new int[5];
            for (int k = 0; k < 5; k++) {
                n[k] = Due.four(text, at + 4 * k);
            }
            calls++;
            is("feed", x.feed(n[0], n[1], n[2], n[3], n[4]), naive.feed(n[0], n[1], n[2], n[3], n[4]));
        }
    }

    private void read(String text) {
        feed(text);
        int size = naive.size();
        int n = random.nextInt(5) == 0 ? random.nextInt(size + 3) - 1 : Math.min(size, text.length());
        calls++;
        String call = "text(" + n + ") of \"" + text + "\"";
        is(call, x.text(n), naive.text(n));
        is(call + ", then fault()", x.fault(), naive.fault());
        is(call + ", then where()", x.where(), naive.where());
        is(call + ", then trouble()", x.trouble(), naive.trouble());
        calls += 3;
    }

    private String name(int k) {
        return k < 26 ? "" + (char) ('a' + k) : "z" + (char) ('a' + k - 26);
    }

    private String blanks() {
        return random.nextInt(25) == 0 ? "  ".substring(random.nextInt(2)) : "";
    }

    /** Few FUNCTIONS and many TERMS of them, so that much becomes one by what it is made of. */
    private String textOfFacts() {
        StringBuilder text = new StringBuilder();
        int functions = 2 + random.nextInt(4);
        int[] takes = new int[functions];
        for (int f = 0; f < functions; f++) {
            takes[f] = f == 0 ? 0 : random.nextInt(4) == 0 ? 0 : 1 + Math.min(random.nextInt(3), random.nextInt(3));
            text.append("fun ").append(name(f)).append(random.nextBoolean() ? " " : "").append(takes[f]).append(';');
        }
        int terms = 1 + random.nextInt(random.nextBoolean() ? 24 : 12);
        int leaves = Math.min(terms, 1 + random.nextInt(6));
        for (int t = 0; t < leaves; t++) {
            text.append("fun l").append((char) ('a' + t)).append(" 0;");
            if (functions + t == 7) {
                leaves = t + 1;
            }
        }
        int sames = 0;
        int diffs = 0;
        for (int t = 0; t < terms && text.length() < 440; t++) {
            int f = random.nextInt(functions);
            String function = t < leaves && functions + t < 8 ? "l" + (char) ('a' + t) : name(takes[f] == 0 || t > 0 ? f : 0);
            int arity = function.startsWith("l") && function.length() == 2 ? 0 : takes[function.charAt(0) - 'a'];
            text.append("term ").append(name(t + 8)).append(blanks()).append('=').append(blanks()).append(function);
            for (int k = 0; k < arity; k++) {
                text.append(k == 0 ? "(" : ",").append(name(partBelow(t) + 8)).append(k == arity - 1 ? ")" : "");
            }
            text.append(';').append(blanks());
            if (random.nextInt(5) == 0 && sames < mostSames - 1) {
                sames++;
                text.append("same ").append(name(random.nextInt(t + 1) + 8)).append(' ')
                        .append(name(random.nextInt(t + 1) + 8)).append(';');
            }
            if (random.nextInt(12) == 0 && diffs < 7) {
                diffs++;
                text.append("diff ").append(name(random.nextInt(t + 1) + 8)).append(' ')
                        .append(name(random.nextInt(t + 1) + 8)).append(';');
            }
        }
        text.setLength(text.toString().stripTrailing().length() - 1);
        return text.length() > 500 ? text.substring(0, 500) : text.toString();
    }

    /** Layers of TERMS of one FUNCTION each, with PARTS from the layer below: what is one below is one above. */
    private String textOfLayers() {
        StringBuilder text = new StringBuilder("fun a 0;fun b 0;fun c 0;fun d 0;fun g 1;fun h 2;fun e 3");
        for (int t = 0; t < 4; t++) {
            text.append(";term ").append(name(t + 8)).append('=').append(name(t));
        }
        int count = 4;
        int below = 0;
        while (count < 24 && text.length() < 420 && random.nextInt(12) > 0) {
            int from = count;
            int takes = 1 + random.nextInt(3);
            for (int k = 2 + random.nextInt(3); k > 0 && count < 24; k--) {
                text.append(";term ").append(name(count + 8)).append('=').append("ghe".charAt(takes - 1));
                for (int part = 0; part < takes; part++) {
                    text.append(part == 0 ? '(' : ',').append(name(below + random.nextInt(from - below) + 8));
                }
                text.append(')');
                count++;
            }
            below = random.nextInt(5) == 0 ? 0 : from;
        }
        for (int k = random.nextInt(mostSames); k > 0 && text.length() < 485; k--) {
            int top = random.nextInt(3) == 0 ? count : 4;
            text.append(";same ").append(name(random.nextInt(top) + 8)).append(' ').append(name(random.nextInt(top) + 8));
        }
        return text.toString();
    }

    /** TERMS each made of those just ahead, mostly three times of the same one, so that COSTS come near the top and above it. */
    private String textOfTower() {
        StringBuilder text = new StringBuilder("fun a 0;fun b 0;fun g 3;fun h 3;term i=a;term j=b");
        int count = 2;
        while (count < 24 && text.length() < 440) {
            int steep = random.nextInt(count > 18 ? 2 : 12);
            int below = count - 1 - (count > 2 && steep == 0 ? random.nextInt(2) : 0);
            text.append(";term ").append(name(count + 8)).append(random.nextInt(count > 18 ? 3 : 9) == 0 ? "=h(" : "=g(");
            for (int part = 0; part < 3; part++) {
                int at = random.nextInt(20) == 0 ? random.nextInt(count) : below;
                text.append(part == 0 ? "" : ",").append(name(at + 8));
            }
            text.append(')');
            count++;
        }
        for (int k = 1 + random.nextInt(3); k > 0; k--) {
            int from = random.nextInt(4) == 0 ? random.nextInt(count) : random.nextInt(2);
            text.append(";same ").append(name(from + 8)).append(' ')
                    .append(name((random.nextInt(3) == 0 ? random.nextInt(count) : from + 1) + 8));
        }
        return text.toString();
    }

    private String anyText() {
        int kind = random.nextInt(5);
        return kind < 2 ? textOfFacts() : kind < 4 ? textOfLayers() : textOfTower();
    }

    /** Often one of the latest, so that TERMS grow deep. */
    private int partBelow(int t) {
        return random.nextBoolean() ? random.nextInt(t) : Math.max(0, t - 1 - random.nextInt(3));
    }

    private static final String[] PIECES = {";", ",", "=", "(", ")", " ", "fun", "term", "same", "diff", "0", "1", "3", "4",
        "9", "12", "a", "b", "i", "j", "k", "la", "lb", "zz", "abcdef", "abcdefg", "A", "#", "\u0000", "\u00e1", "-", "/", ":"};

    /** A text with some of its signs gone, changed, doubled, or other pieces in between. */
    private String broken(String text) {
        StringBuilder torn = new StringBuilder(text);
        for (int k = random.nextInt(3); k >= 0 && torn.length() > 0; k--) {
            int at = random.nextInt(torn.length());
            int to = Math.min(torn.length(), at + 1 + (random.nextInt(3) == 0 ? random.nextInt(8) : 0));
            String piece = PIECES[random.nextInt(PIECES.length)];
            switch (random.nextInt(10)) {
                case 0:
                    torn.delete(at, to);
                    break;
                case 1:
                    torn.replace(at, to, piece);
                    break;
                case 2:
                    torn.insert(at, torn.substring(at, to));
                    break;
                case 3:
                    torn.insert(at, " " + piece + " ");
                    break;
                case 4:
                    torn.insert(at, piece);
                    break;
                case 5:
                    tearAPart(torn, at);
                    break;
                case 6:
                    torn.setLength(at);
                    break;
                default:
                    lineMore(torn);
                    break;
            }
        }
        return torn.length() > 500 ? torn.substring(0, 500) : torn.toString();
    }

    /** Another digit, a PART less or a PART more, somewhere behind a place. */
    private void tearAPart(StringBuilder torn, int from) {
        for (int at = from; at < torn.length(); at++) {
            char c = torn.charAt(at);
            if (c >= '0' && c <= '9') {
                torn.setCharAt(at, (char) ('0' + random.nextInt(10)));
                return;
            }
            if (c == ',' && at + 2 < torn.length()) {
                torn.delete(at, random.nextBoolean() ? at + 2 : at + 1);
                return;
            }
            if (c == '(' || c == ')') {
                torn.insert(at, c == ')' ? "," + name(random.nextInt(9) + 8) : "(" + name(8) + ")");
                return;
            }
        }
    }

    /** Lines more, often over how many there may be. */
    private void lineMore(StringBuilder torn) {
        int times = 1 + random.nextInt(6);
        String name = name(8 + random.nextInt(12));
        String[] lines = {";fun #" + random.nextInt(5), ";term #=la", ";same " + name + " " + name(8), ";diff i " + name};
        String line = lines[random.nextInt(4)];
        for (int k = 0; k < times; k++) {
            torn.append(line.replace("#", "q" + (char) ('a' + k)));
        }
    }

    private void tryName() {
        feed(PIECES[random.nextInt(PIECES.length)] + blanks());
        int n = random.nextInt(4) == 0 ? random.nextInt(24) - 1 : 1 + random.nextInt(6);
        calls++;
        is("named(" + n + ")", named(n, true), named(n, false));
        is("size()", x.size(), naive.size());
        int all = naive.size();
        is("text(" + all + ")", x.text(all), naive.text(all));
    }

    private int named(int n, boolean ofClass) {
        try {
            return ofClass ? x.named(n) : naive.named(n);
        } catch (NoSuchElementException none) {
            return THROWN;
        }
    }

    // ---- acts and questions

    private void tell() {
        calls += 2;
        is("then trouble()", x.trouble(), naive.trouble());
        is("then where()", x.where(), naive.where());
    }

    private int some(int n) {
        if (random.nextInt(60) == 0) {
            return random.nextInt(3) == 0 ? random.nextInt() : n + random.nextInt(3) * (random.nextBoolean() ? 1 : -1);
        }
        return n > 0 ? random.nextInt(n) : 0;
    }

    private int terms() {
        return naive.worldTerms();
    }

    private void act() {
        int a = some(terms());
        int b = some(terms());
        int c = some(terms());
        int kind = random.nextInt(12);
        calls++;
        if (kind < 4 && (naive.worldSames() < mostSames || mostSames == 12)) {
            is("join(" + a + ", " + b + ")", x.join(a, b), naive.join(a, b));
        } else if (kind < 6) {
            is("part(" + a + ", " + b + ")", x.part(a, b), naive.part(a, b));
        } else if (kind < 9) {
            int f = some(naive.worldFunctions());
            int s = random.nextInt(Math.max(1, terms()));
            if (random.nextInt(3) > 0 && naive.worldParts(s).length > 0) {
                f = naive.worldFunctionOf(s);
                int[] parts = naive.worldParts(s);
                a = oneWith(parts[0], a);
                b = oneWith(parts[Math.min(1, parts.length - 1)], b);
                c = oneWith(parts[parts.length - 1], c);
            }
            is("make(" + f + ", " + a + ", " + b + ", " + c + ")", x.make(f, a, b, c), naive.make(f, a, b, c));
        } else {
            is("undo()", x.undo() ? 1 : 0, naive.undo() ? 1 : 0);
        }
    }

    /** Mostly a TERM that is one with another. */
    private int oneWith(int t, int other) {
        for (int k = 0; k < 20 && random.nextInt(12) > 0; k++) {
            int s = random.nextInt(terms());
            if (naive.worldOne(s, t)) {
                return s;
            }
        }
        return other;
    }

    private void ask() {
        int t = some(terms());
        int u = some(terms());
        // mostly two that are one, as most calls ask of such
        for (int k = 0; k < 6 && random.nextInt(8) != 0; k++) {
            if (t >= 0 && t < terms() && u >= 0 && u < terms() && t != u && naive.worldOne(t, u)) {
                break;
            }
            t = some(terms());
            u = some(terms());
        }
        calls++;
        if (random.nextInt(3) == 0) {
            askOne(t, some(9));
        } else if (random.nextInt(4) == 0) {
            askOnPaper(t, u);
        } else {
            askWhy(t, u);
        }
    }

    private void askOne(int t, int what) {
        int k = some(1 + random.nextInt(8));
        switch (random.nextInt(9)) {
            case 0:
                is("about(" + what + ")", x.about(what), naive.about(what));
                break;
            case 1:
                is("function(" + k + ", " + what % 4 + ")", x.function(k, what % 4), naive.function(k, what % 4));
                break;
            case 2:
                is("term(" + t + ", " + what + ")", x.term(t, what), naive.term(t, what));
                break;
            case 3:
                is("partOf(" + t + ", " + what % 5 + ")", x.partOf(t, what % 5), naive.partOf(t, what % 5));
                break;
            case 4:
                is("sameOf(" + k + ", " + what % 4 + ")", x.sameOf(k, what % 4), naive.sameOf(k, what % 4));
                break;
            case 5:
                is("diffOf(" + k + ", " + what % 4 + ")", x.diffOf(k, what % 4), naive.diffOf(k, what % 4));
                break;
            case 6:
                is("joinOf(" + k + ", " + what % 4 + ")", x.joinOf(k, what % 4), naive.joinOf(k, what % 4));
                break;
            case 7:
                is("height(" + t + ")", x.height(t), naive.height(t));
                break;
            default:
                is("hung(" + t + ", " + what % 4 + ")", x.hung(t, what % 4), naive.hung(t, what % 4));
                break;
        }
    }

    private void askWhy(int t, int u) {
        String two = "(" + t + ", " + u + ")";
        int set = some(1 << naive.worldSames());
        int i = some(6);
        switch (random.nextInt(15)) {
            case 0:
                is("equal" + two, x.equal(t, u), naive.equal(t, u));
                break;
            case 1:
                is("apart" + two, x.apart(t, u), naive.apart(t, u));
                break;
            case 2:
                is("reasons" + two, x.reasons(t, u), naive.reasons(t, u));
                break;
            case 3:
                is("pruned" + two, x.pruned(t, u), naive.pruned(t, u));
                break;
            case 4:
                is("fewest" + two, x.fewest(t, u), naive.fewest(t, u));
                break;
            case 5:
                is("proves " + set + two, x.proves(set, t, u), naive.proves(set, t, u));
                break;
            case 6:
                is("since" + two, x.since(t, u), naive.since(t, u));
                break;
            case 7:
                is("needed" + two, x.needed(t, u), naive.needed(t, u));
                break;
            case 8:
                is("many" + two, x.many(t, u), naive.many(t, u));
                break;
            case 9:
                is("base()", x.base(), naive.base());
                break;
            case 10:
                is("level" + two, x.level(t, u), naive.level(t, u));
                break;
            case 11:
                is("cost" + two, x.cost(t, u), naive.cost(t, u));
                break;
            case 12:
                is("core()", x.core(), naive.core());
                break;
            default:
                is("way " + i + two, x.way(t, u, i), naive.way(t, u, i));
                break;
        }
    }

    private void askOnPaper(int t, int u) {
        int what = some(3);
        int i = some(6);
        int k = some(naive.worldSames());
        switch (random.nextInt(5)) {
            case 0:
                is("would(" + t + ", " + u + ", " + what + ")", x.would(t, u, what), naive.would(t, u, what));
                break;
            case 1:
            case 2:
                is("next(" + t + ", " + u + ", " + i + ", " + what + ")", x.next(t, u, i, what), naive.next(t, u, i, what));
                break;
            case 3:
                is("without(" + k + ", " + what + ")", x.without(k, what), naive.without(k, what));
                break;
            default:
                is("free()", x.free(), naive.free());
                break;
        }
    }
}
