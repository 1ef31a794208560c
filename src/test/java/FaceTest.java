import java.lang.reflect.Constructor;
import java.lang.reflect.Field;
import java.lang.reflect.InvocationTargetException;
import java.lang.reflect.Method;
import java.lang.reflect.Modifier;
import java.util.NoSuchElementException;
import java.util.Random;
import java.util.Set;
import java.util.TreeSet;

/** The face is the document's and no more, and no call throws what the document does not name. */
public final class FaceTest {
    private static final String[] FACE = {
        "int sign(int)", "boolean end(int)", "int words()", "int rule()", "int word(int,int)", "int at(int,int)",
        "int letter(int,int)", "int sheet(int,int,int,int)", "int days(int)", "int offer(int,int)",
        "int stirs(int,int)", "int mutes(int,int)", "int year()", "int undo()", "int looks(int,int)",
        "int kinds(int)", "int apart(int,int)", "int chain(int,int,int)", "int ahead(int)", "int falls()",
        "int when(int)", "int shared(int,int)", "int crossest()", "int must(int)", "int most()",
        "int joins(int,int)", "int safe()", "int parts(int,int)", "int noticed(int,int,int)", "int forget()",
        "int fits()", "int next()", "int calms()", "int buys(int)", "int power(int)", "int misread(int,int,int)",
        "int game(int,int,int)", "int law()", "int rests(int)", "int years(int,int)", "boolean keep(int)",
        "boolean again(int)", "int count(int)", "long row(int)"
    };
    private static final Set<String> THROWING = Set.of("word", "at", "letter", "row");
    private static final int[] WILD = {
        Integer.MIN_VALUE, Integer.MIN_VALUE + 1, -1000, -10, -9, -1, 0, 1, 2, 3, 7, 8, 9, 10, 60, 61, 79, 80,
        99, 100, 255, 256, 65536, Integer.MAX_VALUE - 1, Integer.MAX_VALUE
    };

    public static void main(String[] args) throws Exception {
        Check check = new Check();
        lookAtFace(check);
        lookAtNames(check);
        wildCalls(check);
        check.end();
    }

    private static String told(Method m) {
        StringBuilder b = new StringBuilder(m.getReturnType().getName()).append(' ').append(m.getName()).append('(');
        for (Class<?> c : m.getParameterTypes()) {
            b.append(b.charAt(b.length() - 1) == '(' ? "" : ",").append(c.getName());
        }
        return b.append(')').toString();
    }

    private static void lookAtFace(Check check) {
        Class<?> c = SilentLetters.class;
        check.is("the class is public and final",
                Modifier.isPublic(c.getModifiers()) && Modifier.isFinal(c.getModifiers()), true);
        Set<String> face = new TreeSet<>();
        for (Method m : c.getDeclaredMethods()) {
            if (!Modifier.isPrivate(m.getModifiers()) && !m.isSynthetic()) {
                check.is(m + " is public and no static one",
                        Modifier.isPublic(m.getModifiers()) && !Modifier.isStatic(m.getModifiers()), true);
                face.add(told(m));
                boolean named = m.getExceptionTypes().length == 1
                        && m.getExceptionTypes()[0] == NoSuchElementException.class;
                check.is(m + " names what it throws", named, THROWING.contains(m.getName()));
            }
        }
        check.is("the face", face.toString(), new TreeSet<>(Set.of(FACE)).toString());
        Constructor<?>[] makers = c.getDeclaredConstructors();
        check.is("constructors", makers.length, 1);
        check.is("the constructor is public", Modifier.isPublic(makers[0].getModifiers()), true);
        for (Field f : c.getDeclaredFields()) {
            check.is(f + " is private", Modifier.isPrivate(f.getModifiers()), !f.getName().equals("NONE"));
        }
        for (Class<?> inside : c.getDeclaredClasses()) {
            check.is(inside + " is static", Modifier.isStatic(inside.getModifiers()), true);
        }
        check.is("NONE", SilentLetters.NONE, -1);
    }

    /** No private method bears the name of a public one, in the classes inside neither. */
    private static void lookAtNames(Check check) {
        Set<String> names = new TreeSet<>();
        for (String f : FACE) {
            names.add(f.substring(f.indexOf(' ') + 1, f.indexOf('(')));
        }
        for (Method m : SilentLetters.class.getDeclaredMethods()) {
            check.is(m + " bears a public name",
                    !Modifier.isPublic(m.getModifiers()) && names.contains(m.getName()), false);
        }
        for (Class<?> inside : SilentLetters.class.getDeclaredClasses()) {
            for (Method m : inside.getDeclaredMethods()) {
                check.is(m + " bears a public name", names.contains(m.getName()), false);
            }
        }
    }

    private static void wildCalls(Check check) throws IllegalAccessException {
        Method[] methods = SilentLetters.class.getDeclaredMethods();
        for (int run = 0; run < 60; run++) {
            Random random = new Random(run);
            SilentLetters x = run % 3 == 0 ? new SilentLetters() : Check.withWords("Hab;ab;cAb;cb;aBcDeFgH;b;BbBbBbBb");
            for (int call = 0; call < 512; call++) {
                Method m = methods[random.nextInt(methods.length)];
                if (Modifier.isPublic(m.getModifiers())) {
                    wildCall(check, x, m, random);
                }
            }
        }
    }

    private static void wildCall(Check check, SilentLetters x, Method m, Random random)
            throws IllegalAccessException {
        Object[] with = new Object[m.getParameterCount()];
        for (int i = 0; i < with.length; i++) {
            int wild = WILD[random.nextInt(WILD.length)];
            with[i] = m.getName().equals("sign") ? random.nextInt() : wild;
        }
        String thrown = "nothing";
        try {
            m.invoke(x, with);
        } catch (InvocationTargetException e) {
            thrown = e.getCause().getClass().getName();
        }
        boolean fine = thrown.equals("nothing")
                || THROWING.contains(m.getName()) && thrown.equals("java.util.NoSuchElementException");
        check.is(m.getName() + " threw " + thrown, fine, true);
    }
}
