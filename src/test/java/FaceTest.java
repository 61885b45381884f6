import java.lang.reflect.Constructor;
import java.lang.reflect.Field;
import java.lang.reflect.Method;
import java.lang.reflect.Modifier;
import java.util.Arrays;
import java.util.Set;
import java.util.TreeSet;

/** The public face is the document's, and nothing else can be seen (LANGUAGE.md, rules 1 and 5). */
public final class FaceTest {
    private static final String[] METHODS = {
        "int open(int,int,int)", "int hang(int,int,int)", "int same(int,int)", "int length(int)",
        "int read(int,int,int)", "long glass()", "int write(int,int,int,long)", "int take(int,int)",
        "int lay(int,int)", "int hand(int,long)", "long inHand(int)", "int chip(int)",
        "int cut(int,int,int)", "int paste(int,int)", "int turn(int,int)", "int fits(int)",
        "int pour(int,int,int,int,int)", "int sum(int,int)", "int where(int,int,int,long)",
        "int meet(int,int,int)", "int pair(int,int)", "int gather(int,int,int)", "int image(int)",
        "int restore(int)", "int met(int,int)", "int count(int)"
    };
    private static final String[] CONSTANTS = {
        "UNKNOWN=-1", "WRONG=-2", "STATE=-3", "FULL=-4", "NONE=-6", "MISS=-10",
        "DONE=0", "NOTHING=1", "NO_ROW=2", "THINGS=3", "BEYOND=4", "UNFIT=5"
    };

    private static int wrong = 0;

    public static void main(String[] args) throws Exception {
        Class<?> book = CoreBook.class;
        due("the class is public and final", "public final", Modifier.toString(book.getModifiers()));
        methods(book);
        constants(book);
        constructors(book);
        for (Class<?> inside : book.getDeclaredClasses()) {
            due(inside + " is static", true, Modifier.isStatic(inside.getModifiers()));
            due(inside + " is not public", false, Modifier.isPublic(inside.getModifiers()));
            due(inside + " is not protected", false, Modifier.isProtected(inside.getModifiers()));
        }
        System.out.println(wrong == 0 ? "the face is as due" : wrong + " parts of the face are not as due");
        if (wrong != 0) {
            System.exit(1);
        }
    }

    private static void due(String what, Object want, Object got) {
        if (!want.equals(got)) {
            wrong++;
            System.out.println(what + ": " + got + ", due is " + want);
        }
    }

    private static void methods(Class<?> book) {
        Set<String> seen = new TreeSet<>();
        Set<String> publicNames = new TreeSet<>();
        for (Method m : book.getDeclaredMethods()) {
            if (!Modifier.isPrivate(m.getModifiers())) {
                StringBuilder text = new StringBuilder();
                for (Class<?> p : m.getParameterTypes()) {
                    text.append(text.length() == 0 ? "" : ",").append(p.getName());
                }
                seen.add(m.getReturnType().getName() + " " + m.getName() + "(" + text + ")");
                publicNames.add(m.getName());
                due(m.getName() + " is public alone", "public", Modifier.toString(m.getModifiers()));
            }
        }
        due("the methods", new TreeSet<>(Arrays.asList(METHODS)), seen);
        for (Method m : book.getDeclaredMethods()) {
            if (Modifier.isPrivate(m.getModifiers())) {
                due(m.getName() + " bears the name of a public method", false, publicNames.contains(m.getName()));
            }
        }
    }

    private static void constants(Class<?> book) throws Exception {
        Set<String> seen = new TreeSet<>();
        for (Field f : book.getDeclaredFields()) {
            if (Modifier.isStatic(f.getModifiers())) {
                due(f.getName() + " is final", true, Modifier.isFinal(f.getModifiers()));
            }
            if (!Modifier.isPrivate(f.getModifiers())) {
                due(f.getName(), "public static final", Modifier.toString(f.getModifiers()));
                due(f.getName() + " is an int", int.class, f.getType());
                seen.add(f.getName() + "=" + f.get(null));
            }
        }
        due("the constants", new TreeSet<>(Arrays.asList(CONSTANTS)), seen);
    }

    private static void constructors(Class<?> book) {
        Constructor<?>[] all = book.getDeclaredConstructors();
        due("the number of constructors", 1, all.length);
        due("the constructor's parameters", 0, all[0].getParameterCount());
        due("the constructor is public", true, Modifier.isPublic(all[0].getModifiers()));
    }
}
