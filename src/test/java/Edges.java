import java.lang.reflect.InvocationTargetException;
import java.lang.reflect.Method;
import java.util.ArrayList;
import java.util.Arrays;
import java.util.Comparator;
import java.util.List;
import java.util.function.Supplier;
import java.util.regex.Matcher;
import java.util.regex.Pattern;

/** What the tests of boundary cases share; each test is a method whose name begins with its promise's number. */
abstract class Edges {
    static final int BAD = -1, NOT = -2, FULL = -3, NONE = -4, NULL = -11, CAST = -12, INDEX = -13, SIZE = -14;
    static final int LOW = Integer.MIN_VALUE, HIGH = Integer.MAX_VALUE;
    /** Of an object's 512 calls: the scenes need the others, and what is answered beyond them is free. */
    private static final int MOST_PROBED = 400;
    private static final Pattern NAME = Pattern.compile("promise(\\d+)_\\w+");

    private final Check check = new Check();

    /** Runs all tests of the class; each promise of from .. to must have one. */
    final void runAll(int from, int to) {
        List<Method> tests = new ArrayList<>();
        for (Method method : getClass().getDeclaredMethods()) {
            if (NAME.matcher(method.getName()).matches()) {
                tests.add(method);
            }
        }
        tests.sort(Comparator.comparingInt(Edges::promiseOf).thenComparing(Method::getName));
        for (int promise = from; promise <= to; promise++) {
            int number = promise;
            long many = tests.stream().filter(test -> promiseOf(test) == number).count();
            check.part("promise " + promise);
            due("has a test", many > 0 ? 1 : 0, 1);
        }
        for (Method test : tests) {
            check.part(test.getName());
            invoke(test, this);
        }
        System.out.println(tests.size() + " tests of promises " + from + " to " + to);
        check.done();
    }

    private static int promiseOf(Method test) {
        Matcher name = NAME.matcher(test.getName());
        return name.matches() ? Integer.parseInt(name.group(1)) : 0;
    }

    private static Object invoke(Method method, Object on, Object... args) {
        try {
            return method.invoke(on, args);
        } catch (InvocationTargetException e) {
            throw new IllegalStateException(method.getName() + " threw", e.getCause());
        } catch (IllegalAccessException e) {
            throw new IllegalStateException(e);
        }
    }

    final void due(String call, long got, long want) {
        check.due(call, got, want);
    }

    /** A call of the face by its name, so that a row of calls can be told with its words. */
    static long call(CryptBays x, String name, long... args) {
        for (Method method : CryptBays.class.getMethods()) {
            if (method.getName().equals(name) && method.getDeclaringClass() == CryptBays.class) {
                Object[] given = new Object[args.length];
                for (int i = 0; i < args.length; i++) {
                    if (method.getParameterTypes()[i] == long.class) {
                        given[i] = args[i];
                    } else {
                        given[i] = Math.toIntExact(args[i]);
                    }
                }
                return (Integer) invoke(method, x, given);
            }
        }
        throw new IllegalStateException("no such call: " + name);
    }

    /** The call answers so on the busy crypt, and all is as it was ahead of it. */
    final void stays(int want, String name, long... args) {
        staysOn(Edges::busy, want, name, args);
    }

    /** The call answers so, and then the face shows nothing that it does not show of a twin on which it was not made. */
    final void staysOn(Supplier<CryptBays> scene, int want, String name, long... args) {
        String told = name + Arrays.toString(args);
        CryptBays touched = scene.get();
        due(told, call(touched, name, args), want);
        alike(told, touched, scene.get());
    }

    final void alike(String told, CryptBays touched, CryptBays untouched) {
        List<Long> is = Probe.of(touched);
        List<Long> was = Probe.of(untouched);
        int same = 0;
        while (same < is.size() && same < was.size() && is.get(same).equals(was.get(same))) {
            same++;
        }
        due(told + ": the answers afterwards that are as before", same, was.size());
        due(told + ": no other answers", is.size(), was.size());
        due(told + ": within an object's calls", was.size() < MOST_PROBED ? 1 : 0, 1);
    }

    /** Refused on both sides: just outside from .. to, and as far out as a number goes. */
    final void staysOutside(int from, int to, int want, String name, int which, long... args) {
        for (int v : new int[] {from - 1, to + 1, LOW, HIGH}) {
            long[] given = args.clone();
            given[which] = v;
            stays(want, name, given);
        }
    }

    static int read(CryptBays x, String text) {
        for (int i = 0; i < text.length(); i++) {
            x.type(text.charAt(i));
        }
        return x.crypt();
    }

    static CryptBays crypt(String text) {
        CryptBays x = new CryptBays();
        if (read(x, text) < 0) {
            throw new IllegalStateException("the test's crypt is faulty: " + text);
        }
        return x;
    }

    static CryptBays row(CryptBays x, int sheet, int lane, long... items) {
        x.sheet(sheet, lane, items.length);
        for (int i = 0; i < items.length; i++) {
            x.item(sheet, lane, i, items[i]);
        }
        return x;
    }

    /** An item of a sheet, if it is 1 .. 98, for a crypt whose holder 0 is plain and has 1 more a day. */
    static int itemOf(CryptBays x, int sheet, int lane, int i) {
        return x.looks(0, sheet, lane, i, 1, 2) + 1;
    }

    /**
     * Nothing is as at first: four holders (in bays 4, 3, 5, 2; 0 and 1 are free), one of them behind the curtain, six deeds
     * that may be undone, an image with two, a tape of five letters, three sheets (one of no item), the fourth missing.
     */
    static CryptBays busy() {
        CryptBays x = quiet();
        for (char letter : "12345".toCharArray()) {
            x.type(letter);
        }
        return x;
    }

    /** As busy, but with an empty tape. */
    static CryptBays quiet() {
        CryptBays x = crypt("314159;p20@3>0,s45@4>5,y40@0>1,m99@2");
        x.rule(0, 1, 31);
        x.rule(3, 1, 50);
        x.seed(7);
        x.talk(1);
        x.days(1);
        x.image();
        x.drift(2);
        x.change(0, 1);
        x.move(2, 5);
        row(x, 0, 2, 50, 60, 70);
        row(x, 1, 0, 8, 9);
        x.sheet(2, 3, 0);
        return x;
    }

    /** The last day: none may pass, but they are foretold. One plain holder, used by 50, with 7 more a day. */
    static CryptBays day9999() {
        CryptBays x = new CryptBays();
        for (int i = 0; i < 249; i++) {
            x.days(40);
        }
        x.days(39);
        x.holder(0, 50, 0);
        return x;
    }

    /** Six holders, all bays held, one deed that may be undone. */
    static CryptBays full() {
        CryptBays x = crypt("307512;p20@3>0,s45@4>5,m50@0>3,l30@1>2,y64@5>1,m99@2");
        x.days(1);
        return x;
    }
}
