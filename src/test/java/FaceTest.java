import java.lang.reflect.Constructor;
import java.lang.reflect.Field;
import java.lang.reflect.Method;
import java.lang.reflect.Modifier;
import java.util.NoSuchElementException;
import java.util.Set;
import java.util.TreeSet;

/** The public face: the document's members, no more and no fewer. */
public final class FaceTest {
    private static final String FACE = "feed(IIIII)int end(I)boolean house()int fault()int cask(II)int litres(II)int! age(II)int! "
        + "old(II)int! now(I)int bottle(I)int draw(II)int run(I)int top()int tip(III)int years(I)int undo()int blend(III)int "
        + "blendAt(I)int ripe(II)int plan(II)int which()int ask()int store(II)int stored()int older(I)int where(I)int "
        + "mean(II)int! part(II)int! tag(I)int byteAt(I)int drawn(II)int odds(III)int book(I)int told(I)int sentence()int "
        + "said(I)int image(I)boolean restore(I)boolean count(I)int scale(II)int";

    public static void main(String[] args) throws ReflectiveOperationException {
        Check check = new Check();
        Set<String> want = new TreeSet<>(Set.of(FACE.split(" ")));
        Set<String> got = new TreeSet<>();
        for (Method m : SoleraHouse.class.getDeclaredMethods()) {
            if (Modifier.isPublic(m.getModifiers())) {
                got.add(m.getName() + "(" + types(m) + ")" + m.getReturnType() + thrown(m));
                check.truth("an object's " + m.getName(), false, Modifier.isStatic(m.getModifiers()));
            } else {
                check.truth("private " + m.getName(), true, Modifier.isPrivate(m.getModifiers()) || m.isSynthetic());
            }
        }
        check.truth("methods " + got, true, want.equals(got));
        for (Field f : SoleraHouse.class.getDeclaredFields()) {
            check.truth("field " + f.getName(), true, f.getName().equals("NONE") || Modifier.isPrivate(f.getModifiers()));
            check.truth("static " + f.getName(), true,
                !Modifier.isStatic(f.getModifiers()) || Modifier.isFinal(f.getModifiers()));
        }
        check.same("NONE", -1, SoleraHouse.NONE);
        Field none = SoleraHouse.class.getField("NONE");
        check.same("NONE is public, static, final", Modifier.PUBLIC | Modifier.STATIC | Modifier.FINAL, none.getModifiers());
        check.truth("NONE is an int", true, none.getType() == int.class);
        Constructor<?>[] made = SoleraHouse.class.getDeclaredConstructors();
        check.same("constructors", 1, made.length);
        check.same("what it takes", 0, made[0].getParameterCount());
        check.truth("public", true, Modifier.isPublic(made[0].getModifiers()));
        check.truth("final", true, Modifier.isFinal(SoleraHouse.class.getModifiers()));
        for (Class<?> inside : SoleraHouse.class.getDeclaredClasses()) {
            int m = inside.getModifiers();
            check.truth("class " + inside, true, Modifier.isStatic(m) && !Modifier.isPublic(m) && !Modifier.isProtected(m));
        }
        check.close("FaceTest");
    }
    private static String types(Method m) {
        StringBuilder all = new StringBuilder();
        for (Class<?> type : m.getParameterTypes()) {
            all.append(type == int.class ? "I" : type.getName());
        }
        return all.toString();
    }

    private static String thrown(Method m) {
        StringBuilder all = new StringBuilder();
        for (Class<?> type : m.getExceptionTypes()) {
            all.append(type == NoSuchElementException.class ? "!" : type.getName());
        }
        return all.toString();
    }
}
