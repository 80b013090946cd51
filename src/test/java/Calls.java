import java.lang.reflect.InvocationTargetException;
import java.lang.reflect.Method;
import java.util.ArrayList;
import java.util.HashMap;
import java.util.List;
import java.util.Map;

/**
 * One LeanMarks whose calls are made by their names, so that a wrong answer tells its call, and so that the
 * same calls can be made again: of each refused call it is looked at whether anything changed.
 */
final class Calls {
    private static final Map<String, Method> FACE = face();

    private record Call(String name, long[] numbers) {
        long on(LeanMarks object) {
            Method method = FACE.get(name);
            try {
                Object answer = method.invoke(object, told(method));
                return ((Number) answer).longValue();
            } catch (InvocationTargetException e) {
                throw new IllegalStateException(this + " threw", e.getCause());
            } catch (IllegalAccessException e) {
                throw new IllegalStateException(this + " is not of the face", e);
            }
        }

        private Object[] told(Method method) {
            Class<?>[] types = method.getParameterTypes();
            Object[] all = new Object[types.length];
            for (int i = 0; i < types.length; i++) {
                if (types[i] == boolean.class) {
                    all[i] = numbers[i] != 0;
                } else if (types[i] == long.class) {
                    all[i] = numbers[i];
                } else {
                    all[i] = Math.toIntExact(numbers[i]);
                }
            }
            return all;
        }

        @Override
        public String toString() {
            Object[] all = told(FACE.get(name));
            List<String> words = new ArrayList<>();
            for (Object one : all) {
                words.add(one instanceof Long v ? "0x" + Long.toHexString(v) : one.toString());
            }
            return name + "(" + String.join(", ", words) + ")";
        }
    }

    private final Due due;
    private final LeanMarks object = new LeanMarks();
    private final List<Call> made = new ArrayList<>();

    Calls(Due due) {
        this.due = due;
    }

    private static Map<String, Method> face() {
        Map<String, Method> all = new HashMap<>();
        for (Method method : LeanMarks.class.getDeclaredMethods()) {
            all.put(method.getName(), method);
        }
        return all;
    }

    /** Makes a call for what it does; a boolean is told as 0 or 1. */
    long call(String name, long... numbers) {
        Call call = new Call(name, numbers);
        long got = call.on(object);
        made.add(call);
        return got;
    }

    /** Makes a call whose answer is due; one that is refused (below zero) may change nothing. */
    void due(long want, String name, long... numbers) {
        long got = call(name, numbers);
        Call last = made.get(made.size() - 1);
        due.asked(last.toString(), got, want);
        if (want < 0) {
            due.unchanged(last.toString(), stateBehind(made.size()), stateBehind(made.size() - 1));
        }
    }

    /** The number at a place is told from low to high: what is just below, just above and far away is refused. */
    void beyond(long want, String name, int place, int low, int high, long... numbers) {
        for (int number : new int[] {low - 1, high + 1, Integer.MIN_VALUE, Integer.MAX_VALUE}) {
            long[] now = numbers.clone();
            now[place] = number;
            due(want, name, now);
        }
    }

    /** ROW k is told as it should be now. */
    void rowDue(int k, int columns, int lines, long marks) {
        due(columns, "told", k, 0);
        due(lines, "told", k, 1);
        due(marks, "marks", k);
    }

    void write(String text) {
        for (int i = 0; i < text.length(); i += 8) {
            String part = text.substring(i, Math.min(text.length(), i + 8));
            call("write", part.length(), bytes(part));
        }
    }

    static long bytes(String part) {
        long v = 0;
        for (int i = 0; i < part.length(); i++) {
            v = v << 8 | part.charAt(i);
        }
        return v;
    }

    /** All that can be asked behind the first calls, on a fresh object: asking here must not wear out this one. */
    private String stateBehind(int calls) {
        LeanMarks x = new LeanMarks();
        for (int i = 0; i < calls; i++) {
            made.get(i).on(x);
        }
        StringBuilder all = new StringBuilder();
        for (int k = 0; k < 6; k++) {
            all.append("ROW ").append(k).append(": ").append(x.told(k, 0)).append(" by ").append(x.told(k, 1));
            all.append(" ").append(Long.toHexString(x.marks(k))).append(" found");
            for (int what = 0; what < 3; what++) {
                all.append(" ").append(x.found(k, what));
            }
            all.append("; ");
        }
        for (int what = 0; what < 4; what++) {
            all.append("count ").append(x.count(what)).append("; ");
        }
        all.append("fault ").append(x.fault()).append("; ").append(heardOf(x)).append(laidBy(x));
        return all.toString();
    }

    /** Which of the marks that hear() was ever told are HEARD: those answer NO. */
    private String heardOf(LeanMarks x) {
        StringBuilder all = new StringBuilder("heard");
        for (Call call : made) {
            if (call.name.equals("hear")) {
                all.append(" ").append(call.on(x));
            }
        }
        return all.append("; ").toString();
    }

    private static String laidBy(LeanMarks x) {
        StringBuilder all = new StringBuilder("laid ").append(x.lay(12)).append(":");
        for (int k = 0; k < 6; k++) {
            all.append(" ").append(Long.toHexString(x.marks(k)));
        }
        return all.toString();
    }
}
