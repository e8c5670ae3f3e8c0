import java.lang.reflect.InvocationTargetException;
import java.lang.reflect.Method;
import java.util.Arrays;

/**
 * Plays runs of calls that are written as text, each on a new object: "road(0,1,2,0) = 0", several
 * behind one another with ';'. "day AbA+" wipes the pad and says these signs (no spaces).
 * Behind '#' a line says why.
 */
final class Script {
    /** Towns a to d in a row, 2 and 3 miles, then none; lefts at b, rights at c; A at a. */
    static final String ROW = """
            road(0,1,2,0)=0; road(1,2,3,0)=0; shop(1,1,4)=0; shop(2,2,5)=0
            stock(1,2,1)=0; stock(2,2,2)=0; person(0,0,2,2,20)=1
            """;

    /** The document promises nothing of an object behind so many calls. */
    private static final int MOST_CALLS = 512;

    private int wrong = 0;
    private int asked = 0;
    private int calls = 0;

    void play(String title, String text) {
        OddShoes shoes = new OddShoes();
        calls = 0;
        for (String line : text.split("\n")) {
            String calls = line.contains("#") ? line.substring(0, line.indexOf('#')) : line;
            for (String call : calls.split(";")) {
                if (!call.isBlank()) {
                    playCall(title, shoes, call.trim());
                }
            }
        }
        expect(title + " takes " + calls + " calls", calls <= MOST_CALLS);
    }

    /** Ends the program: with 1, if some answer was not as due. */
    void end() {
        System.out.println(asked + " answers asked for, " + wrong + " not as due");
        System.exit(wrong == 0 && asked > 0 ? 0 : 1);
    }

    void expect(String title, boolean holds) {
        asked++;
        if (!holds) {
            wrong++;
            System.out.println(title);
        }
    }

    private void playCall(String title, OddShoes shoes, String call) {
        if (call.startsWith("day")) {
            shoes.wipe();
            calls++;
            int count = 0;
            for (char sign : call.substring(3).replace(" ", "").toCharArray()) {
                count++;
                check(title, call, shoes.say(sign), count);
            }
            return;
        }
        int open = call.indexOf('(');
        int close = call.indexOf(')');
        String name = call.substring(0, open).trim();
        String inside = call.substring(open + 1, close).trim();
        String[] parts = inside.isEmpty() ? new String[0] : inside.split(",");
        Object[] arguments = new Object[parts.length];
        for (int i = 0; i < parts.length; i++) {
            arguments[i] = Integer.parseInt(parts[i].trim());
        }
        String due = call.substring(call.indexOf('=') + 1).trim();
        check(title, call, ask(shoes, name, arguments), numberOf(due));
    }

    static long ask(OddShoes shoes, String name, Object[] arguments) {
        Class<?>[] types = new Class<?>[arguments.length];
        Arrays.fill(types, int.class);
        try {
            Method method = OddShoes.class.getMethod(name, types);
            return ((Number) method.invoke(shoes, arguments)).longValue();
        } catch (InvocationTargetException e) {
            throw new IllegalStateException(name + " threw", e.getCause());
        } catch (ReflectiveOperationException e) {
            throw new IllegalStateException(name, e);
        }
    }

    static long numberOf(String due) {
        switch (due) {
            case "NONE": return -6;
            case "UNKNOWN": return -1;
            case "OUTSIDE": return -2;
            case "STATE": return -3;
            case "FULL": return -4;
            case "NO": return -5;
            case "LOST UNKNOWN": return -1000000000000000001L;
            case "LOST OUTSIDE": return -1000000000000000002L;
            default: return Long.parseLong(due);
        }
    }

    private void check(String title, String call, long got, long due) {
        asked++;
        calls++;
        if (got != due) {
            wrong++;
            System.out.println(title + ": " + call + " answered " + got);
        }
    }
}
