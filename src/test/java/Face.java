import java.io.IOException;
import java.lang.reflect.Constructor;
import java.lang.reflect.Field;
import java.lang.reflect.Method;
import java.lang.reflect.Modifier;
import java.nio.file.Files;
import java.nio.file.Path;
import java.util.Arrays;
import java.util.Set;
import java.util.TreeSet;
import java.util.regex.Matcher;
import java.util.regex.Pattern;

/** The public face of the document, and those rules of LANGUAGE.md that a test can see. */
public final class Face {
    private static final String[] METHODS = {
        "int open(long)", "int leg(int,long)", "int clear()", "int post(long)", "int hold(long,int,long)",
        "int release(int)", "int capture(long,int,int,long)", "int reverse(long,int)", "int every(int)",
        "long account(int,int)", "long entry(int,int)", "int data(int)", "int alter(int,int)",
        "int hash(int,int,int)", "int keep(int)", "int verify(int)", "int path(int,int)", "int proof(int,int)",
        "int step(int,int)", "int leads(int,int)", "int audit()", "int count(int)"
    };
    private static final String FORBIDDEN =
        "\\b(throw|throws|try|catch|finally|synchronized|assert|import|package|record|var|double|float"
            + "|Object|System\\.out|hashCode|toString|\\w+Exact)\\b|->|::";
    private static int wrong = 0;

    private static void must(boolean so, String what) {
        if (!so) {
            wrong++;
            System.out.println("not so: " + what);
        }
    }

    public static void main(String[] args) throws IOException {
        faceIsTheDocuments();
        nothingElseIsVisible();
        sourceKeepsToTheLanguage();
        System.out.println(wrong == 0 ? "the face is as due" : wrong + " things are not as due");
        if (wrong != 0) {
            System.exit(1);
        }
    }

    private static void faceIsTheDocuments() {
        must(Modifier.isFinal(ChainBooks.class.getModifiers()), "the class is final");
        must(ChainBooks.NONE == -1, "NONE is -1");
        must(ChainBooks.NOTHING == Long.MIN_VALUE, "NOTHING is the least number of 64 bits");
        Set<String> seen = new TreeSet<>();
        for (Method m : ChainBooks.class.getDeclaredMethods()) {
            if (!Modifier.isPrivate(m.getModifiers())) {
                must(Modifier.isPublic(m.getModifiers()) && !Modifier.isStatic(m.getModifiers()), m + " is public");
                String given = Arrays.toString(m.getParameterTypes()).replaceAll("[\\[\\] ]", "");
                seen.add(m.getReturnType() + " " + m.getName() + "(" + given + ")");
            }
        }
        must(seen.equals(new TreeSet<>(Arrays.asList(METHODS))), "the public methods are those of the document: " + seen);
    }

    private static void nothingElseIsVisible() {
        for (Field f : ChainBooks.class.getDeclaredFields()) {
            boolean constant = f.getName().equals("NONE") || f.getName().equals("NOTHING");
            must(constant == !Modifier.isPrivate(f.getModifiers()), "only the constants are visible: " + f);
        }
        Constructor<?>[] made = ChainBooks.class.getDeclaredConstructors();
        must(made.length == 1 && Modifier.isPublic(made[0].getModifiers()) && made[0].getParameterCount() == 0,
            "there is one constructor");
        Set<String> open = new TreeSet<>();
        for (String m : METHODS) {
            open.add(m.replaceAll(".* |\\(.*", ""));
        }
        namesAreTheirOwn(ChainBooks.class, open);
        int classes = 1;
        for (Class<?> inside : ChainBooks.class.getDeclaredClasses()) {
            must(Modifier.isStatic(inside.getModifiers()), inside + " is static");
            must(inside.getDeclaredFields().length <= 20, inside + " has no more than 20 fields");
            namesAreTheirOwn(inside, open);
            classes++;
        }
        must(classes <= 12, "there are no more than 12 classes");
    }

    private static void namesAreTheirOwn(Class<?> of, Set<String> open) {
        for (Method m : of.getDeclaredMethods()) {
            must(Modifier.isPublic(m.getModifiers()) || !open.contains(m.getName()), m + " has a name of its own");
            must(m.getParameterCount() <= 7, m + " takes no more than 7 parameters");
        }
        for (Field f : of.getDeclaredFields()) {
            must(!Modifier.isStatic(f.getModifiers()) || Modifier.isFinal(f.getModifiers()), f + " is final");
        }
    }

    private static void sourceKeepsToTheLanguage() throws IOException {
        String source = Files.readString(Path.of("src/main/java/ChainBooks.java"));
        String bare = source.replaceAll("(?s)/\\*.*?\\*/", "").replaceAll("//[^\n]*", "");
        Matcher found = Pattern.compile(FORBIDDEN).matcher(bare);
        while (found.find()) {
            must(false, "the program has no '" + found.group() + "'");
        }
    }
}
