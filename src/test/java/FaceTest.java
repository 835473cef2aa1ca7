import java.lang.reflect.Constructor;
import java.lang.reflect.Field;
import java.lang.reflect.Method;
import java.lang.reflect.Modifier;
import java.util.Set;
import java.util.TreeSet;

/** The public face is the document's and nothing else. */
public final class FaceTest {
    private static final String[] FACE = {
        "int stake(int)", "int post(int,int)", "int sheet()", "int heat(int)", "int sight(int,int,int)",
        "int erase(int,int)", "int camel(int)", "int bell(int)", "int tie(int)", "int loose(int)",
        "int drink(int)", "int water(int)", "int hours(int)", "int stakeAt(int)", "int postOf(int,boolean)",
        "int camelOf(int,int)", "int drawnAt(int,int)", "int wrongBy(int)", "int seems(int,int)",
        "int seemsAgain(int,int)", "boolean shimmers(int,int)", "int bestPost(int)", "int clearIn(int,int)",
        "int heatIn(int)", "int lostIn(int)", "int nearest(int)", "int append(char)", "int commands()",
        "int faultPosition()", "int reason(int)", "int line(int)", "char character(int)", "float meanThirst()",
        "double rightShare()", "int account(int)", "int undo()", "int save()", "int restore()",
    };

    public static void main(String[] args) {
        Check.is("public and final", Modifier.toString(MirageSurvey.class.getModifiers()), "public final");
        Set<String> names = new TreeSet<>();
        Set<String> seen = new TreeSet<>();
        Set<String> hidden = new TreeSet<>();
        for (Method method : MirageSurvey.class.getDeclaredMethods()) {
            if (Modifier.isPrivate(method.getModifiers())) {
                hidden.add(method.getName());
                continue;
            }
            Check.is(method.getName() + " is", Modifier.toString(method.getModifiers()), "public");
            seen.add(signature(method));
            names.add(method.getName());
        }
        Check.is("methods", seen, new TreeSet<>(Set.of(FACE)));
        hidden.retainAll(names);
        Check.is("private methods that bear a public name", hidden, new TreeSet<String>());
        for (Field field : MirageSurvey.class.getDeclaredFields()) {
            Check.is(field.getName() + " is private", Modifier.isPrivate(field.getModifiers()), true);
        }
        Constructor<?>[] constructors = MirageSurvey.class.getDeclaredConstructors();
        Check.is("constructors", constructors.length, 1);
        Check.is("constructor", constructors[0].toString(), "public MirageSurvey()");
        Check.end();
    }

    private static String signature(Method method) {
        StringBuilder text = new StringBuilder(method.getReturnType().getName());
        text.append(' ').append(method.getName()).append('(');
        String comma = "";
        for (Class<?> kind : method.getParameterTypes()) {
            text.append(comma).append(kind.getName());
            comma = ",";
        }
        return text.append(')').toString();
    }
}
