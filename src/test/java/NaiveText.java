import java.util.ArrayList;
import java.util.List;

/** THE TEXT read slowly: all TOKENS first, then of each TOKEN every FAULT that can be found at it. */
final class NaiveText {
    static final class Token {
        final char kind;
        final String text;
        final int place;

        /** Kinds: w a WORD, d a WHOLE, ! what begins no TOKEN, $ the end; a sign stands for itself. */
        Token(char kind, String text, int place) {
            this.kind = kind;
            this.text = text;
            this.place = place;
        }

        boolean isName() {
            return kind == 'w' && !text.matches("fun|term|same|diff");
        }
    }

    final List<String> functions = new ArrayList<>();
    final List<Integer> takes = new ArrayList<>();
    final List<String> terms = new ArrayList<>();
    final List<int[]> events = new ArrayList<>();
    int fault;
    int place = -1;

    private final List<Token> tokens = new ArrayList<>();
    private int sames;
    private int diffs;

    NaiveText(byte[] bytes) {
        split(bytes);
        List<Token> line = new ArrayList<>();
        for (Token token : tokens) {
            int least = Integer.MAX_VALUE;
            for (int number = 1; number <= 5; number++) {
                if (isFault(number, line, token)) {
                    least = Math.min(least, number);
                }
            }
            if (least < 6) {
                fault = least;
                place = token.place;
                return;
            }
            if (token.kind == ';' || token.kind == '$') {
                take(line);
                line.clear();
            } else {
                line.add(token);
            }
        }
    }

    private void split(byte[] bytes) {
        int at = 0;
        while (at < bytes.length) {
            char c = (char) (bytes[at] & 255);
            int from = at;
            if (c == ' ') {
                at++;
            } else if (c >= 'a' && c <= 'z') {
                StringBuilder word = new StringBuilder();
                while (at < bytes.length && bytes[at] >= 'a' && bytes[at] <= 'z') {
                    word.append((char) bytes[at++]);
                }
                tokens.add(new Token(word.length() > 6 ? '!' : 'w', word.toString(), from));
            } else if (c >= '0' && c <= '9') {
                while (at < bytes.length && bytes[at] >= '0' && bytes[at] <= '9') {
                    at++;
                }
                tokens.add(new Token(at - from > 1 ? '!' : 'd', "" + c, from));
            } else {
                at++;
                tokens.add(new Token(";,=()".indexOf(c) >= 0 ? c : '!', "" + c, from));
            }
        }
        tokens.add(new Token('$', "", bytes.length));
    }

    /** Is the FAULT found at a TOKEN, behind those of its LINE that have none? */
    private boolean isFault(int number, List<Token> line, Token token) {
        switch (number) {
            case 1:
                return !goesOn(line, token);
            case 2:
                return token.kind == 'd' && token.text.charAt(0) > '3';
            case 3:
                return isWrongName(line, token);
            case 4:
                return line.isEmpty() && (token.text.equals("fun") && functions.size() == 8
                        || token.text.equals("term") && terms.size() == 24
                        || token.text.equals("same") && sames == 12 || token.text.equals("diff") && diffs == 8);
            default:
                return isWrongCount(line, token);
        }
    }

    /** Does some TEXT begin with this LINE's TOKENS and this one? */
    private static boolean goesOn(List<Token> line, Token token) {
        StringBuilder shape = new StringBuilder();
        for (Token t : line) {
            shape.append(sign(t));
        }
        shape.append(sign(token));
        String all = shape.toString();
        for (String whole : WHOLE_LINES) {
            if (whole.startsWith(all)) {
                return true;
            }
        }
        return false;
    }

    /** Every LINE there can be with up to 60 PARTS: F T S D the four WORDS, n a NAME, d a WHOLE, then ; or the end. */
    private static final List<String> WHOLE_LINES = wholeLines();

    private static List<String> wholeLines() {
        List<String> lines = new ArrayList<>();
        StringBuilder parts = new StringBuilder("Tn=n(n");
        for (char end : new char[] {';', '$'}) {
            lines.add("Fnd" + end);
            lines.add("Snn" + end);
            lines.add("Dnn" + end);
            lines.add("Tn=n" + end);
        }
        for (int k = 0; k < 60; k++) {
            lines.add(parts + ");");
            lines.add(parts + ")$");
            parts.append(",n");
        }
        return lines;
    }

    private static char sign(Token token) {
        if (token.kind != 'w') {
            return token.kind;
        }
        return token.isName() ? 'n' : Character.toUpperCase(token.text.charAt(0));
    }

    private boolean isWrongName(List<Token> line, Token token) {
        if (!token.isName() || line.isEmpty()) {
            return false;
        }
        boolean function = functions.contains(token.text);
        boolean term = terms.contains(token.text);
        if (line.size() == 1 && (line.get(0).text.equals("fun") || line.get(0).text.equals("term"))) {
            return function || term;
        }
        return line.get(0).text.equals("term") && line.size() == 3 ? !function : !term;
    }

    private boolean isWrongCount(List<Token> line, Token token) {
        if (line.size() < 4 || !line.get(0).text.equals("term")) {
            return false;
        }
        int due = takes.get(functions.indexOf(line.get(3).text));
        int told = (line.size() - 4) / 2;
        switch (token.kind) {
            case '(':
                return due == 0;
            case ',':
                return told >= due;
            case ')':
                return told != due;
            case ';':
            case '$':
                return line.size() == 4 && due != 0;
            default:
                return false;
        }
    }

    private void take(List<Token> line) {
        String kind = line.get(0).text;
        if (kind.equals("fun")) {
            functions.add(line.get(1).text);
            takes.add(line.get(2).text.charAt(0) - '0');
        } else if (kind.equals("term")) {
            int function = functions.indexOf(line.get(3).text);
            int[] event = new int[2 + takes.get(function)];
            event[0] = NaiveCloser.TERM;
            event[1] = function;
            for (int k = 2; k < event.length; k++) {
                event[k] = terms.indexOf(line.get(2 * k + 1).text);
            }
            terms.add(line.get(1).text);
            events.add(event);
        } else {
            boolean same = kind.equals("same");
            sames += same ? 1 : 0;
            diffs += same ? 0 : 1;
            events.add(new int[] {same ? NaiveCloser.SAME : NaiveCloser.DIFF, terms.indexOf(line.get(1).text),
                    terms.indexOf(line.get(2).text)});
        }
    }
}
