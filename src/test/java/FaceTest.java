import java.lang.reflect.Constructor;
import java.lang.reflect.Field;
import java.lang.reflect.Method;
import java.lang.reflect.Modifier;
import java.util.Set;
import java.util.TreeSet;

/** The public face: the document's members, no more and no fewer. */
public final class FaceTest {
    private static final String FACE = "feed(IIIII)int end(I)boolean house()int fault()int cask(II)int litres(II)int! age(II)int! "
        + "old(II)int! now(I)int bottle(I)int draw(II)int run(I)int top()int tip(III)int years(I)int undo()int blend(III)int "
        + "blendAt(I)int ripe(II)int plan(II)int which()int ask()int store(II)int stored()int older(I)int where(I)int "
        + "mean(II)int! part(II)int! tag(I)int byteAt(I)int drawn(II)int odds(III)int book(I)int told(I)int sentence()int "
        + "said(I)int image(I)boolean restore(I)boolean count(I)int scale(II)int";

    public static void main(String[] args) {
        Check check = new Check();
        Set<String> want = new TreeSet<>(Set.of(FACE.split(" ")));
        Set<String> got = new TreeSet<>();
        Set<String> hidden = new TreeSet<>();
        for (Method m : SoleraHouse.class.getDeclaredMethods()) {
            if (Modifier.isPublic(m.getModifiers())) {
                got.add(m.getName() + "(" + "I".repeat(m.getParameterCount()) + ")" + m.getReturnType()
                    + (m.getExceptionTypes().length > 0 ? "!" : ""));
            } else {
                hidden.add(m.getName());
                check.truth("private " + m.getName(), true, Modifier.isPrivate(m.getModifiers()) || m.isSynthetic());
            }
        }
        check.truth("methods " + got, true, want.equals(got));
        for (String name : hidden) {
            check.truth("a name of the face: " + name, false, FACE.contains(" " + name + "("));
        }
        for (Field f : SoleraHouse.class.getDeclaredFields()) {
            check.truth("field " + f.getName(), true, f.getName().equals("NONE") || Modifier.isPrivate(f.getModifiers()));
            check.truth("static " + f.getName(), true,
                !Modifier.isStatic(f.getModifiers()) || Modifier.isFinal(f.getModifiers()));
        }
        Constructor<?>[] made = SoleraHouse.class.getDeclaredConstructors();
        check.same("constructors", 1, made.length);
        check.truth("public", true, Modifier.isPublic(made[0].getModifiers()));
        check.truth("final", true, Modifier.isFinal(SoleraHouse.class.getModifiers()));
        for (Class<?> inside : SoleraHouse.class.getDeclaredClasses()) {
            int m = inside.getModifiers();
            check.truth("class " + inside, true, Modifier.isStatic(m) && !Modifier.isPublic(m) && !Modifier.isProtected(m));
        }
        check.close("FaceTest");
    }
}
