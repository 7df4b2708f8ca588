import java.lang.reflect.Constructor;
import java.lang.reflect.Field;
import java.lang.reflect.Method;
import java.lang.reflect.Modifier;
import java.util.Arrays;
import java.util.HashSet;
import java.util.Set;
import java.util.TreeSet;

/** The public face is the document's and nothing else is seen from outside. */
public final class FaceTest {
  private static final String[] FACE = {
    "public int SealBox.feed(int,int,int,int,int) throws java.lang.IllegalStateException",
    "public int SealBox.end(int) throws java.lang.IllegalArgumentException",
    "public void SealBox.use(int) throws java.util.NoSuchElementException,"
        + "java.lang.IllegalArgumentException",
    "public void SealBox.iv() throws java.lang.IllegalArgumentException",
    "public void SealBox.number(long)",
    "public int SealBox.beside()",
    "public int SealBox.seal() throws java.lang.IllegalStateException",
    "public int SealBox.open() throws java.lang.IllegalStateException,"
        + "java.lang.UnsupportedOperationException",
    "public int SealBox.back(int,int) throws java.lang.IndexOutOfBoundsException",
    "public int SealBox.box(int) throws java.lang.IndexOutOfBoundsException",
    "public int SealBox.count(int)",
    "public long SealBox.numbered()",
  };

  public static void main(String[] args) {
    Set<String> seen = new TreeSet<>();
    Set<String> publicNames = new HashSet<>();
    for (Method method : SealBox.class.getDeclaredMethods()) {
      if (!Modifier.isPrivate(method.getModifiers())) {
        seen.add(method.toString());
        publicNames.add(method.getName());
      }
    }
    dueTrue("the methods are " + seen, seen.equals(new TreeSet<>(Arrays.asList(FACE))));
    dueTrue("the class is public and final",
        SealBox.class.getModifiers() == (Modifier.PUBLIC | Modifier.FINAL));
    Constructor<?>[] constructors = SealBox.class.getDeclaredConstructors();
    Check.due("constructors", constructors.length, 1);
    dueTrue("the constructor", constructors[0].toString().equals("public SealBox()"));
    checkMembers(SealBox.class, publicNames);
    for (Class<?> inside : SealBox.class.getDeclaredClasses()) {
      dueTrue(inside + " is static", Modifier.isStatic(inside.getModifiers()));
      checkNames(inside, publicNames);
    }
    Check.finish();
  }

  private static void checkMembers(Class<?> type, Set<String> publicNames) {
    for (Field field : type.getDeclaredFields()) {
      dueTrue(field + " is private", Modifier.isPrivate(field.getModifiers()));
      dueTrue(field + " is final if static",
          !Modifier.isStatic(field.getModifiers()) || Modifier.isFinal(field.getModifiers()));
    }
    for (Method method : type.getDeclaredMethods()) {
      dueTrue(method + " has a name of its own",
          Modifier.isPublic(method.getModifiers()) || !publicNames.contains(method.getName()));
    }
  }

  private static void checkNames(Class<?> type, Set<String> publicNames) {
    for (Method method : type.getDeclaredMethods()) {
      dueTrue(method + " has a name of its own", !publicNames.contains(method.getName()));
    }
  }

  private static void dueTrue(String what, boolean holds) {
    Check.due(what, holds ? 1 : 0, 1);
  }
}
