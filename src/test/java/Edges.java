import java.io.IOException;
import java.lang.reflect.Method;
import java.nio.file.Files;
import java.nio.file.Path;
import java.util.ArrayList;
import java.util.Comparator;
import java.util.List;
import java.util.function.IntSupplier;

/** Tests at the document's boundaries: each method stands for one sentence of one promise, and is named after them. */
abstract class Edges {
    static final int NONE = FieldOvens.NONE, UNKNOWN = FieldOvens.UNKNOWN, OUTSIDE = FieldOvens.OUTSIDE;
    static final int STATE = FieldOvens.STATE, FULL = FieldOvens.FULL;
    static final int MORE_UNKNOWN = -100001, MORE_OUTSIDE = -100002, MORE_STATE = -100003;
    static final int LEAST = Integer.MIN_VALUE, MOST = Integer.MAX_VALUE;
    static final int LAND = 0, MARCH = 1, TOLD = 2;

    private final Check check;
    private String test = "";

    Edges(String name) {
        check = new Check(name);
    }

    /** Runs each method that says a sentence of the document, whose path is the property "doc". */
    final void play(int firstPromise, int lastPromise) throws IOException, ReflectiveOperationException {
        String doc = plain(Files.readString(Path.of(System.getProperty("doc", "../shared/DOC.md"))));
        boolean[] tested = new boolean[lastPromise + 1];
        for (Method method : tests()) {
            test = method.getName();
            int promise = Integer.parseInt(test.substring(1, 3));
            check.yes(test + " is of a promise of these", promise >= firstPromise && promise <= lastPromise);
            tested[promise] = true;
            for (String says : method.getAnnotation(Says.class).value()) {
                check.yes(test + ": the document says: " + says, doc.contains(plain(says)));
            }
            method.invoke(this);
        }
        for (int promise = firstPromise; promise <= lastPromise; promise++) {
            check.yes("promise " + promise + " has a test", tested[promise]);
        }
        check.end();
    }

    private List<Method> tests() {
        List<Method> tests = new ArrayList<>();
        for (Method method : getClass().getDeclaredMethods()) {
            if (method.isAnnotationPresent(Says.class)) tests.add(method);
        }
        tests.sort(Comparator.comparing(Method::getName));
        return tests;
    }

    private static String plain(String text) {
        return text.replaceAll("\\s+", " ");
    }

    final void due(String call, long got, long want) {
        check.due(test + ": " + call, got, want);
    }

    /** The call is refused, and all that the digest tells is as it was. */
    final void refused(FieldOvens x, String call, int want, IntSupplier asked) {
        long before = x.digest();
        due(call, asked.getAsInt(), want);
        due(call + " changed something: digest()", x.digest(), before);
    }

    static FieldOvens written(String text) {
        FieldOvens x = new FieldOvens();
        Check.write(x, text);
        return x;
    }

    static int read(FieldOvens x, int sort) {
        return sort == LAND ? x.land() : sort == MARCH ? x.march() : x.tell();
    }

    /** The text is a whole one: no letter of it is at fault, and it is read; the object that has read it. */
    final FieldOvens taken(int sort, String text) {
        FieldOvens x = written(text);
        due("fault(" + sort + ") of \"" + text + "\"", x.fault(sort), text.length());
        due("\"" + text + "\" is read", read(x, sort) >= 0 ? 1 : 0, 1);
        due("letters behind \"" + text + "\"", x.count(3), 0);
        return x;
    }

    /** The text is at fault at this place (behind its end: it only lacks something), and is not read. */
    final void atFault(int sort, String text, int place) {
        FieldOvens x = written(text);
        due("fault(" + sort + ") of \"" + text + "\"", x.fault(sort), place);
        refused(x, "reading \"" + text + "\"", STATE, () -> read(x, sort));
    }

    /** An object with a land and a march, number 0. */
    final FieldOvens made(String land, String march) {
        FieldOvens x = new FieldOvens();
        due("places of " + land, Check.land(x, land) >= 2 ? 1 : 0, 1);
        due("number of " + march, Check.march(x, march), 0);
        return x;
    }

    /** An object with a land, a march and a told plan, each number 0. */
    final FieldOvens made(String land, String march, String told) {
        FieldOvens x = made(land, march);
        due("number of " + told, Check.told(x, told), 0);
        return x;
    }

    /** A call of a plan and a march, whatever else it takes. */
    interface Call {
        int ask(FieldOvens x, int plan, int march);
    }

    /** What a call answers when it refuses. */
    record Answers(int unknown, int state, int outside) {
    }

    static final Answers USUAL = new Answers(UNKNOWN, STATE, OUTSIDE);

    /** UNKNOWN plan or march, then STATE without a LAND, then what else is wrong: of several the first. */
    final void refusedInOrder(Answers answers, Call right, Call wrong) {
        FieldOvens x = new FieldOvens();
        refused(x, "no plan, no march", answers.unknown, () -> right.ask(x, 0, 0));
        x.plan(0, 1, 0);
        refused(x, "no march", answers.unknown, () -> right.ask(x, 0, 0));
        refused(x, "no march, and what is wrong", answers.unknown, () -> wrong.ask(x, 0, 0));
        FieldOvens y = new FieldOvens();
        Check.march(y, "1:c5c5");
        refused(y, "no plan", answers.unknown, () -> right.ask(y, 0, 0));
        Check.march(x, "1:c5c5");
        refused(x, "no land", answers.state, () -> right.ask(x, 0, 0));
        refused(x, "no land, and what is wrong", answers.state, () -> wrong.ask(x, 0, 0));
        unknownNumbers(x, answers, wrong);
        Check.land(x, "9w,9w;b5d0k9");
        due("it is not refused", right.ask(x, 0, 0) >= NONE ? 1 : 0, 1);
        refused(x, "what is wrong", answers.outside, () -> wrong.ask(x, 0, 0));
        unknownNumbers(x, answers, wrong);
    }

    private void unknownNumbers(FieldOvens x, Answers answers, Call wrong) {
        for (int number : new int[] {-1, 1, LEAST, MOST}) {
            refused(x, "plan " + number, answers.unknown, () -> wrong.ask(x, number, 0));
            refused(x, "march " + number, answers.unknown, () -> wrong.ask(x, 0, number));
        }
    }

    /** The last of eight plans and of four marches are known, those behind them are not. */
    final void lastPlanAndMarch(Answers answers, Call right) {
        FieldOvens x = new FieldOvens();
        Check.land(x, "9w,9w;b5d0k9");
        for (int i = 0; i < 8; i++) x.plan(0, 1, 0);
        for (int i = 0; i < 4; i++) Check.march(x, "1:c5c5");
        due("plan 7, march 3", right.ask(x, 7, 3) >= NONE ? 1 : 0, 1);
        refused(x, "plan 8", answers.unknown, () -> right.ask(x, 8, 3));
        refused(x, "march 4", answers.unknown, () -> right.ask(x, 7, 4));
    }

    static long digestOf(int... numbers) {
        long h = 397;
        for (int number : numbers) h = 31 * h + number;
        return h;
    }
}
