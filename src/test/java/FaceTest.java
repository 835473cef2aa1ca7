import java.lang.reflect.Constructor;
import java.lang.reflect.Field;
import java.lang.reflect.Method;
import java.lang.reflect.Modifier;
import java.util.Set;
import java.util.TreeSet;

/** The public face is the document's and nothing else; the classes inside are as LANGUAGE.md wants them. */
public final class FaceTest {
    private static final String[] FACE = {
        "int stake(int)", "int post(int,int)", "int sheet()", "int heat(int)", "int sight(int,int,int)",
        "int erase(int,int)", "int camel(int)", "int bell(int)", "int tie(int)", "int loose(int)",
        "int drink(int)", "int water(int)", "int hours(int)", "int stakeAt(int)", "int postOf(int,boolean)",
        "int camelOf(int,int)", "int drawnAt(int,int)", "int wrongBy(int)", "int seems(int,int)",
        "int seemsAgain(int,int)", "boolean shimmers(int,int)", "int bestPost(int)", "int clearIn(int,int)",
        "int heatIn(int)", "int lostIn(int)", "int nearest(int)", "int append(char)", "int commands()",
        "int faultPosition()", "int reason(int)", "int line(int)", "char character(int)", "float meanThirst()",
        "double rightShare()", "int account(int)", "int undo()", "int save()", "int restore()",
    };

    public static void main(String[] args) {
        Check.is("public and final", Modifier.toString(MirageSurvey.class.getModifiers()), "public final");
        Set<String> names = new TreeSet<>();
        Set<String> seen = new TreeSet<>();
        Set<String> hidden = new TreeSet<>();
        for (Method method : MirageSurvey.class.getDeclaredMethods()) {
            if (Modifier.isPrivate(method.getModifiers())) {
                hidden.add(method.getName());
                continue;
            }
            Check.is(method.getName() + " is", Modifier.toString(method.getModifiers()), "public");
            seen.add(signature(method));
            names.add(method.getName());
        }
        Check.is("methods", seen, new TreeSet<>(Set.of(FACE)));
        hidden.retainAll(names);
        Check.is("private methods that bear a public name", hidden, new TreeSet<String>());
        for (Field field : MirageSurvey.class.getDeclaredFields()) {
            Check.is(field.getName() + " is private", Modifier.isPrivate(field.getModifiers()), true);
        }
        Constructor<?>[] constructors = MirageSurvey.class.getDeclaredConstructors();
        Check.is("constructors", constructors.length, 1);
        Check.is("constructor", constructors[0].toString(), "public MirageSurvey()");
        classesInside(names);
        Check.end();
    }

    /** LANGUAGE.md, rules 1, 2, 5 and 11, of the class itself and of those inside it. */
    private static void classesInside(Set<String> names) {
        Class<?>[] inside = MirageSurvey.class.getDeclaredClasses();
        Check.is("at most twelve classes", inside.length + 1 <= 12, true);
        fieldsOf(MirageSurvey.class);
        for (Class<?> one : inside) {
            String name = one.getSimpleName();
            int kind = one.getModifiers();
            Check.is(name + " is static", Modifier.isStatic(kind), true);
            Check.is(name + " is private or package-visible", Modifier.isPublic(kind) || Modifier.isProtected(kind), false);
            Check.is(name + " holds no class", one.getDeclaredClasses().length, 0);
            fieldsOf(one);
            for (Method method : one.getDeclaredMethods()) {
                boolean isHidden = Modifier.isPrivate(method.getModifiers()) && names.contains(method.getName());
                Check.is(name + "." + method.getName() + " is private and bears a public name", isHidden, false);
            }
        }
    }

    private static void fieldsOf(Class<?> one) {
        int count = 0;
        for (Field field : one.getDeclaredFields()) {
            boolean isStatic = Modifier.isStatic(field.getModifiers());
            count += isStatic ? 0 : 1;
            Check.is(field + " is final if it is static", !isStatic || Modifier.isFinal(field.getModifiers()), true);
        }
        Check.is(one.getSimpleName() + " has at most twenty fields beside its constants", count <= 20, true);
    }

    private static String signature(Method method) {
        StringBuilder text = new StringBuilder(method.getReturnType().getName());
        text.append(' ').append(method.getName()).append('(');
        String comma = "";
        for (Class<?> kind : method.getParameterTypes()) {
            text.append(comma).append(kind.getName());
            comma = ",";
        }
        return text.append(')').toString();
    }
}
