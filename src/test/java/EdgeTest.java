import java.lang.reflect.InvocationTargetException;
import java.lang.reflect.Method;
import java.util.NoSuchElementException;

/** Every call with every mixture of numbers at the edges, in some states, beside the naive model. */
public final class EdgeTest {
    private static final int[] EDGES = {Integer.MIN_VALUE, -2, -1, 0, 1, 2, 3, 4, 5, 6, 7, 8, 9, 11, 12, 23, 24, 4095, 4096,
        Integer.MAX_VALUE};
    private static final int[] FEW = {Integer.MIN_VALUE, -1, 0, 1, 3, 6, 8, Integer.MAX_VALUE};
    private static final int MOST_CALLS = 480;
    private static final Due due = new Due();

    private static final String[] STATES = {
        "",
        "fun a 0",
        "fun a 0;fun b 0;fun c 0;fun g 1;fun h 2;fun k 3;term p=a;term q=b;term r=c;term s=g(p);term t=g(q);"
            + "term u=h(s,p);term v=h(t,q);same p q;same r s;same q p;diff u v;diff p r",
        "fun a 0;fun g 1;fun h 2;term p=a;term q=g(p);term r=g(q);term s=g(r);term t=h(p,s);term u=h(s,p);"
            + "same p r;same t q;diff p q;diff s q;diff t u",
    };

    private ReasonCloser x;
    private NaiveCloser naive;
    private int calls;

    public static void main(String[] args) throws ReflectiveOperationException {
        for (String state : STATES) {
            EdgeTest test = new EdgeTest();
            for (Method method : ReasonCloser.class.getDeclaredMethods()) {
                if (java.lang.reflect.Modifier.isPublic(method.getModifiers()) && !method.getName().equals("feed")) {
                    test.all(state, method, new Object[method.getParameterCount()], 0);
                }
            }
        }
        due.end();
    }

    private void begin(String state) {
        x = new ReasonCloser();
        naive = new NaiveCloser();
        calls = 0;
        if (state.isEmpty()) {
            return;
        }
        for (int at = 0; at < state.length(); at += 20) {
            naive.feed(Due.four(state, at), Due.four(state, at + 4), Due.four(state, at + 8), Due.four(state, at + 12),
                    Due.four(state, at + 16));
            calls++;
        }
        Due.feed(x, state);
        naive.text(state.length());
        x.text(state.length());
        calls++;
    }

    private void all(String state, Method method, Object[] arguments, int given) throws ReflectiveOperationException {
        if (given < arguments.length) {
            for (int number : arguments.length > 2 ? FEW : EDGES) {
                arguments[given] = number;
                all(state, method, arguments, given + 1);
            }
            return;
        }
        if (x == null || calls > MOST_CALLS || method.getName().equals("text")) {
            begin(state);
        }
        StringBuilder call = new StringBuilder(state).append(": ").append(method.getName());
        for (Object number : arguments) {
            call.append(' ').append(number);
        }
        int acts = naive.about(5);
        x.about(5);
        Method other = NaiveCloser.class.getDeclaredMethod(method.getName(), method.getParameterTypes());
        due.is(call.toString(), answer(method, x, arguments), answer(other, naive, arguments));
        due.is(call + ", then trouble()", x.trouble(), naive.trouble());
        due.is(call + ", then where()", x.where(), naive.where());
        calls += 5;
        while (naive.about(5) > acts) {
            due.yes(call + ", then undo()", naive.undo() == x.undo());
            calls++;
        }
    }

    /** What a call answers, a boolean as 1 or 0; -88 if it throws what it may, -99 anything else. */
    private static int answer(Method method, Object object, Object[] arguments) throws ReflectiveOperationException {
        try {
            Object told = method.invoke(object, arguments);
            return told instanceof Boolean ? ((Boolean) told ? 1 : 0) : (Integer) told;
        } catch (InvocationTargetException thrown) {
            return thrown.getCause().getClass() == NoSuchElementException.class && method.getName().equals("named") ? -88 : -99;
        }
    }
}
