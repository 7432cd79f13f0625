import java.lang.reflect.Constructor;
import java.lang.reflect.Field;
import java.lang.reflect.Method;
import java.lang.reflect.Modifier;
import java.util.Set;
import java.util.TreeSet;

/** The class shows just the members of the document's face, and keeps its state as LANGUAGE.md asks. */
public final class FaceTest {
  private static int wrong = 0;

  private static final Set<String> FACE = Set.of(
      "public static final int BAD", "public static final int NONE", "public static final int UNION",
      "public static final int MEET", "public static final int DUAL",
      "public SimplicialDesk()",
      "public int add(int,int)", "public int take(int,int)", "public boolean apply(int,int,int,int)",
      "public boolean link(int,int,int)", "public boolean skeleton(int,int,int)", "public boolean has(int,int)",
      "public int count(int,int)", "public int balance(int)", "public int facets(int)", "public int facet(int,int)",
      "public int holes(int,int,int)", "public int torsion(int,int)", "public int relative(int,int,int)",
      "public int surface(int)", "public int pieces(int)", "public boolean level(int)");

  private static final Set<String> FIELD_TYPES = Set.of("int", "long", "short", "byte", "char", "boolean",
      "int[]", "long[]", "short[]", "byte[]", "char[]", "boolean[]");

  private static void check(boolean holds, String what) {
    if (!holds) {
      wrong++;
      System.out.println(what);
    }
  }

  private static String plain(String member) {
    return member.replace("SimplicialDesk.", "");
  }

  public static void main(String[] args) {
    Class<?> face = SimplicialDesk.class;
    check(Modifier.isPublic(face.getModifiers()) && Modifier.isFinal(face.getModifiers()), "not public and final");
    check(face.getDeclaredClasses().length == 0, "has a nested class");
    check(face.getSuperclass() == Object.class && face.getInterfaces().length == 0, "has another type above it");
    Set<String> shown = new TreeSet<>();
    Set<String> openNames = new TreeSet<>();
    for (Constructor<?> c : face.getDeclaredConstructors()) shown.add(c.toString());
    for (Method m : face.getDeclaredMethods()) {
      if (!Modifier.isPrivate(m.getModifiers())) {
        shown.add(plain(m.toString()));
        openNames.add(m.getName());
      }
    }
    for (Method m : face.getDeclaredMethods()) {
      check(!Modifier.isPrivate(m.getModifiers()) || !openNames.contains(m.getName()), "a private " + m.getName());
      check(m.getParameterCount() <= 7, "too many parameters: " + m);
    }
    for (Field f : face.getDeclaredFields()) {
      if (!Modifier.isPrivate(f.getModifiers())) shown.add(plain(f.toString()));
      check(FIELD_TYPES.contains(f.getType().getSimpleName()), "type of " + f);
      boolean constant = Modifier.isFinal(f.getModifiers()) && (f.getType() == int.class || f.getType() == long.class);
      check(!Modifier.isStatic(f.getModifiers()) || constant, "static and no constant: " + f);
    }
    check(shown.equals(new TreeSet<>(FACE)), "shows " + shown + "\ndue is " + new TreeSet<>(FACE));
    System.out.println(wrong == 0 ? "the face is as due" : wrong + " things are not as due");
    if (wrong != 0) System.exit(1);
  }
}
