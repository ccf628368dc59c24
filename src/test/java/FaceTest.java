import java.lang.reflect.Method;
import java.lang.reflect.Modifier;
import java.lang.reflect.Field;
import java.util.Set;
import java.util.TreeSet;

/** The public face is the document's, no less and no more. */
public final class FaceTest {
    private static final String[] METHODS = {
        "feed(int)", "march()", "fault()", "told(int)", "road(int,int)", "treaty(int,int)", "shift(int,int)", "year(int)",
        "strike()", "drift(int)", "undo()", "way(int,int,boolean)", "truly(int,int,int)", "adds()", "mend(int)",
        "want(int,int)", "dawns(int)", "round(int)", "deceive(int,int)", "fee(int,int,int)", "owes(int)", "clash()",
        "rate(int,int)", "journey(int,int)", "liars()", "fits(int,int)", "write(int,int)", "tear()", "judge()", "seed(int)",
        "keep(int)", "goBack(int)"};

    public static void main(String[] args) {
        Set<String> want = new TreeSet<>();
        Set<String> names = new TreeSet<>();
        for (String method : METHODS) {
            want.add(method);
            names.add(method.substring(0, method.indexOf('(')));
        }
        Set<String> got = new TreeSet<>();
        for (Method method : MovedStones.class.getDeclaredMethods()) {
            if (Modifier.isPrivate(method.getModifiers())) {
                Check.due("private " + method.getName() + " bears a public name", !names.contains(method.getName()));
                continue;
            }
            StringBuilder text = new StringBuilder(method.getName()).append('(');
            for (Class<?> type : method.getParameterTypes()) {
                text.append(text.charAt(text.length() - 1) == '(' ? "" : ",").append(type.getName());
            }
            got.add(text.append(')').toString());
            Check.due(method.getName() + " is not public or gives no int",
                Modifier.isPublic(method.getModifiers()) && method.getReturnType() == int.class);
        }
        Check.due("methods are " + got + ", due are " + want, got.equals(want));
        fields();
        Check.due("the class is not public and final", Modifier.isPublic(MovedStones.class.getModifiers())
            && Modifier.isFinal(MovedStones.class.getModifiers()));
        Check.due("constructors", MovedStones.class.getDeclaredConstructors().length, 1);
        Check.end();
    }

    private static void fields() {
        Set<String> got = new TreeSet<>();
        for (Field field : MovedStones.class.getDeclaredFields()) {
            if (!Modifier.isPrivate(field.getModifiers())) {
                got.add(field.getName());
            }
        }
        Check.due("constants are " + got, got.equals(Set.of("NONE", "UNKNOWN", "OUTSIDE", "NOT", "FULL")));
        Check.due("NONE", MovedStones.NONE, -1);
        Check.due("UNKNOWN", MovedStones.UNKNOWN, -1000000001);
        Check.due("OUTSIDE", MovedStones.OUTSIDE, -1000000002);
        Check.due("NOT", MovedStones.NOT, -1000000003);
        Check.due("FULL", MovedStones.FULL, -1000000004);
    }
}
