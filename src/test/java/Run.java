import java.lang.reflect.InvocationTargetException;
import java.lang.reflect.Method;
import java.lang.reflect.Modifier;
import java.util.HashMap;
import java.util.Map;

/**
 * A run of calls on a new object, each told as one writes it: "day(0, 1, 1)", with MIN and MAX for the ends
 * of int. It is named by what the document says, and keeps to the 512 calls that are promised.
 */
final class Run {
    private static final int CALLS = 512;
    private static final Map<String, Method> METHODS = methods();

    private final Check check;
    private final String name;
    private final RedSky x = new RedSky();
    private int calls = 0;

    Run(Check check, String name) {
        this.check = check;
        this.name = name;
    }

    private static Map<String, Method> methods() {
        Map<String, Method> all = new HashMap<>();
        for (Method m : RedSky.class.getDeclaredMethods()) {
            if (Modifier.isPublic(m.getModifiers())) {
                all.put(m.getName(), m);
            }
        }
        return all;
    }

    /** What a call answers. */
    long ask(String call) {
        calls++;
        if (calls > CALLS) {
            throw new IllegalStateException(name + ": more calls than are promised");
        }
        int open = call.indexOf('(');
        Method m = METHODS.get(call.substring(0, open));
        String inside = call.substring(open + 1, call.length() - 1);
        String[] told = inside.isEmpty() ? new String[0] : inside.split(", ");
        Object[] args = new Object[told.length];
        for (int i = 0; i < told.length; i++) {
            args[i] = argument(told[i], m.getParameterTypes()[i]);
        }
        try {
            return ((Number) m.invoke(x, args)).longValue();
        } catch (InvocationTargetException e) {
            throw new IllegalStateException(name + ": " + call, e.getCause());
        } catch (IllegalAccessException e) {
            throw new IllegalStateException(call, e);
        }
    }

    private static Object argument(String told, Class<?> type) {
        if (type == boolean.class) {
            return Boolean.valueOf(told);
        }
        if (type == long.class) {
            return Long.valueOf(told);
        }
        return told.equals("MIN") ? Integer.MIN_VALUE : told.equals("MAX") ? Integer.MAX_VALUE : Integer.valueOf(told);
    }

    Run due(String call, long want) {
        check.due(name + ": " + call, ask(call), want);
        return this;
    }

    /** Answers of one call for the numbers from 0 on that stand for "?" in it. */
    Run eachDue(String call, long... want) {
        for (int i = 0; i < want.length; i++) {
            due(call.replace("?", String.valueOf(i)), want[i]);
        }
        return this;
    }

    /** Calls whose answers do not matter here. */
    Run go(String... told) {
        for (String call : told) {
            ask(call);
        }
        return this;
    }

    /** A call that is refused, or tells something: it changes nothing. */
    Run stays(String call, long want) {
        String before = told();
        due(call, want);
        check.holds(name + ": " + call + " changes nothing", told().equals(before));
        return this;
    }

    /** All that tells of a change: beside the digest the latest LIST, and what the SAYINGS hold of VALLEY 0. */
    String told() {
        StringBuilder all = new StringBuilder().append(ask("digest()"));
        for (int i = 0; i < 6; i++) {
            all.append(' ').append(ask("list(" + i + ")"));
        }
        all.append(' ').append(ask("entry(0)")).append(' ').append(ask("entry(1)"));
        for (long k = ask("count(0)") - 1; k >= 0; k--) {
            all.append(' ').append(ask("cases(" + k + ", 0, 0, 3, 1)")).append(' ').append(ask("cases(" + k + ", 0, 0, 3, 3)"));
        }
        return all.toString();
    }

    /** Puts a text behind THE PAGE. */
    Run type(String text) {
        for (int i = 0; i < text.length(); i += 8) {
            ask("letters(" + Check.packed(text.substring(i, Math.min(i + 8, text.length()))) + ")");
        }
        return this;
    }

    /** THE PAGE becomes this text. */
    Run page(String text) {
        ask("blank()");
        return type(text);
    }

    /** SAYINGS are said that must be such. */
    Run say(String... texts) {
        for (String text : texts) {
            page(text);
            long next = ask("count(0)");
            check.due(name + ": say() of " + text, ask("say()"), next);
        }
        return this;
    }

    /** THE PAGE is no SAYING, and so many of its letters begin one. */
    Run none(String text, int good) {
        page(text);
        check.due(name + ": good() of " + text, ask("good()"), good);
        check.due(name + ": say() of " + text, ask("say()"), RedSky.STATE);
        check.due(name + ": THE PAGE stays " + text, ask("count(1)"), text.length());
        return this;
    }

    /** An object in which something of each kind stands. */
    static Run standing(Check check, String name) {
        Run r = new Run(check, name);
        r.go("first(2)", "saint(3, 6, 24, 1, 11)", "saint(7, 12, 31, 3, -30)");
        r.go("write(0, 0, 11, 0)", "write(0, 1, 12, 9)", "write(1, 2, 13, 0)", "write(2, 3, 14, 40)");
        r.say("S=1&W>3:1~R>0", "T>5:0-2^W<8@4-9", "R=0:1~!R=0@#3");
        r.go("age(0, 1)", "age(1, 3)", "age(2, 5)");
        r.go("draw(0, 1, 77)", "copy(1, 0, 1, 9)", "draw(2, 0, 5)", "copy(3, 0, 1, 4)");
        r.go("learn(0, 0, 2, 3)", "learn(0, 1, 2, 1)");
        return r.type("S=2:1~R");
    }
}
