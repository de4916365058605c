import java.lang.reflect.Constructor;
import java.lang.reflect.Field;
import java.lang.reflect.Member;
import java.lang.reflect.Method;
import java.lang.reflect.Modifier;
import java.nio.file.Files;
import java.nio.file.Path;
import java.util.Set;
import java.util.TreeSet;
import java.util.regex.Matcher;
import java.util.regex.Pattern;

/** The public face is the document's, and nothing beside it (LANGUAGE.md, rule 1). */
public final class FaceTest {
  public static void main(String[] args) throws Exception {
    Class<?> face = SoapNames.class;
    Due.so("public and final", Modifier.isPublic(face.getModifiers())
        && Modifier.isFinal(face.getModifiers()));
    Due.so("calls: " + calls(face) + ", due: " + told(), calls(face).equals(told()));
    Due.due("calls told", told().size(), 42);
    Set<String> names = new TreeSet<>();
    for (Method m : face.getDeclaredMethods()) {
      boolean isPublic = Modifier.isPublic(m.getModifiers());
      Due.so(m + " is public or private", isPublic || isPrivate(m));
      if (isPublic) {
        names.add(m.getName());
      }
    }
    for (Field f : face.getDeclaredFields()) {
      Due.so(f + " is private", isPrivate(f));
    }
    privateNames(face, names);
    for (Class<?> inside : face.getDeclaredClasses()) {
      int is = inside.getModifiers();
      Due.so(inside + " is static", Modifier.isStatic(is));
      Due.so(inside + " is not public", !Modifier.isPublic(is) && !Modifier.isProtected(is));
      privateNames(inside, names);
      Due.so(inside + " has some twenty fields at most", fields(inside) <= 20);
    }
    Due.so("some twelve classes at most", face.getDeclaredClasses().length < 12);
    Due.so("some twenty fields at most", fields(face) <= 20);
    Due.end();
  }

  private static boolean isPrivate(Member m) {
    return Modifier.isPrivate(m.getModifiers());
  }

  private static void privateNames(Class<?> c, Set<String> publicOnes) {
    for (Method m : c.getDeclaredMethods()) {
      boolean isPublic = Modifier.isPublic(m.getModifiers());
      Due.so(m + " bears a name of its own", isPublic || !publicOnes.contains(m.getName()));
    }
  }

  private static int fields(Class<?> c) {
    int many = 0;
    for (Field f : c.getDeclaredFields()) {
      boolean isStatic = Modifier.isStatic(f.getModifiers());
      Due.so(f + " is final, if static", !isStatic || Modifier.isFinal(f.getModifiers()));
      many += isStatic ? 0 : 1;
    }
    return many;
  }

  private static Set<String> calls(Class<?> face) {
    Set<String> calls = new TreeSet<>();
    for (Constructor<?> c : face.getDeclaredConstructors()) {
      calls.add(c.getName() + types(c.getParameterTypes()) + (isPrivate(c) ? " private" : ""));
    }
    for (Method m : face.getDeclaredMethods()) {
      if (Modifier.isPublic(m.getModifiers())) {
        calls.add(m.getReturnType() + " " + m.getName() + types(m.getParameterTypes())
            + (Modifier.isStatic(m.getModifiers()) ? " static" : ""));
      }
    }
    return calls;
  }

  private static String types(Class<?>[] types) {
    StringBuilder s = new StringBuilder();
    for (Class<?> t : types) {
      s.append(' ').append(t);
    }
    return s.toString();
  }

  /** The face as the document's Java block has it. */
  private static Set<String> told() throws Exception {
    Set<String> told = new TreeSet<>();
    String doc = Files.readString(Path.of("../shared/DOC.md"));
    Matcher m = Pattern.compile("(?m)^    public ([\\w ]*)\\((.*)\\);$").matcher(doc);
    while (m.find()) {
      StringBuilder s = new StringBuilder(m.group(1));
      for (String parameter : m.group(2).isEmpty() ? new String[0] : m.group(2).split(", ")) {
        s.append(' ').append(parameter.split(" ")[0]);
      }
      told.add(s.toString());
    }
    return told;
  }
}
