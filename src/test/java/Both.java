import java.lang.reflect.InvocationHandler;
import java.lang.reflect.InvocationTargetException;
import java.lang.reflect.Method;
import java.lang.reflect.Proxy;
import java.util.ArrayList;
import java.util.Arrays;
import java.util.HashMap;
import java.util.List;
import java.util.Map;

/** The class and the second writing of the document: each call goes to both, which must answer the same. */
final class Both implements InvocationHandler {
    /** That both did not answer the same. */
    static final class Differs extends Error {
        Differs(String text) {
            super(text);
        }
    }

    private static final Map<Method, Method> OWN = new HashMap<>();
    private static final String TOLD =
            " rows user link cut seed spawn tell does step crash boot type login upgrade "
        + "spoil mend ";

    final List<String> told = new ArrayList<>();
    final Works works = (Works) Proxy.newProxyInstance(Works.class.getClassLoader(), new Class<?>[] {Works.class},
            this);
    private final KernelWorks first = new KernelWorks();
    private final Second second = new Second();

    /** The method of the class itself that is the one of its face. */
    private static Method own(Method method) throws NoSuchMethodException {
        Method own = OWN.get(method);
        if (own == null) {
            own = KernelWorks.class.getMethod(method.getName(), method.getParameterTypes());
            OWN.put(method, own);
        }
        return own;
    }

    /** What a call answers, or the exception that it throws. */
    private static Object answer(Object of, Method method, Object[] args) throws ReflectiveOperationException {
        try {
            return method.invoke(of, args);
        } catch (InvocationTargetException e) {
            return e.getCause();
        }
    }

    private static String text(Object answer) {
        return answer instanceof Throwable ? answer.getClass().getSimpleName() : String.valueOf(answer);
    }

    @Override
    public Object invoke(Object proxy, Method method, Object[] args) throws Throwable {
        String call = method.getName() + (args == null ? "[]" : Arrays.toString(args));
        if (TOLD.contains(" " + method.getName() + " ")) {
            told.add(call);
        }
        Object one = answer(first, own(method), args);
        Object two = answer(second, method, args);
        if (!text(one).equals(text(two))) {
            Differs differs = new Differs(call + " answered " + text(one) + ", by the second writing " + text(two));
            if (two instanceof Throwable) {
                differs.initCause((Throwable) two);
            }
            throw differs;
        }
        if (one instanceof Throwable) {
            throw (Throwable) one;
        }
        return one;
    }
}
