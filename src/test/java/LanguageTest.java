import java.io.ByteArrayInputStream;
import java.io.DataInputStream;
import java.io.IOException;
import java.lang.reflect.Field;
import java.lang.reflect.Method;
import java.lang.reflect.Modifier;
import java.nio.file.Files;
import java.nio.file.Path;
import java.util.ArrayList;
import java.util.Arrays;
import java.util.List;
import java.util.Set;
import java.util.TreeSet;
import java.util.regex.Matcher;
import java.util.regex.Pattern;

/** The rules of LANGUAGE.md that a program can look at: in the source and in what javac makes. */
public final class LanguageTest {
  private static final Path SOURCES = Path.of("src/main/java");
  private static final Set<String> CALLED = Set.of("java/lang/Object.<init>",
      "java/lang/System.arraycopy", "java/lang/Math.max", "java/util/Arrays.copyOf",
      "java/util/Arrays.fill", "java/lang/IllegalStateException.<init>",
      "java/lang/IllegalArgumentException.<init>", "java/lang/IndexOutOfBoundsException.<init>",
      "java/lang/UnsupportedOperationException.<init>", "java/util/NoSuchElementException.<init>");
  private static final Set<Class<?>> STATIC_TYPES = Set.of(int.class, long.class, boolean.class,
      char.class, String.class, int[].class, long[].class, char[].class, byte[].class);
  private static final Pattern REFUSED = Pattern.compile(
      "\\b(package|protected|finally|synchronized|assert|native|transient|volatile|try|catch"
          + "|float|double|hashCode|toString)\\b|->|::|\\bstatic \\{");
  private static final Pattern METHOD = Pattern.compile("^( {2}| {4})[A-Za-z].*\\).*\\{$");

  public static void main(String[] args) throws IOException {
    oneFile();
    String source = bare(Files.readString(SOURCES.resolve("SealBox.java")));
    refusedWords(source);
    lengthOfMethods(source);
    writtenThrows(source);
    List<Class<?>> all = classes();
    Check.due("some twelve classes at most", Math.max(all.size(), 12), 12);
    for (Class<?> type : all) {
      sizes(type);
      statics(type);
      called(type);
    }
    Check.finish();
  }

  private static void oneFile() throws IOException {
    try (var files = Files.walk(SOURCES)) {
      Check.due("files of the program", files.filter(Files::isRegularFile).count(), 1);
    }
  }

  private static List<Class<?>> classes() {
    List<Class<?>> all = new ArrayList<>();
    all.add(SealBox.class);
    for (int i = 0; i < all.size(); i++) {
      all.addAll(Arrays.asList(all.get(i).getDeclaredClasses()));
    }
    return all;
  }

  /** The source without its comments and texts, line by line as it was. */
  private static String bare(String source) {
    return source.replaceAll("\"[^\"\\n]*\"", "\"\"").replaceAll("//.*", "")
        .replaceAll("(?m)^ */?\\*.*", "");
  }

  /** Rules 1, 2, 3, 5 and 6. */
  private static void refusedWords(String source) {
    Matcher found = REFUSED.matcher(source);
    while (found.find()) {
      Check.tell("the source has " + found.group());
    }
    Matcher imported = Pattern.compile("(?m)^import (.*);$").matcher(source);
    Set<String> imports = new TreeSet<>();
    while (imported.find()) {
      imports.add(imported.group(1));
    }
    same("imports", imports,
        Set.of("java.util.Arrays", "java.util.NoSuchElementException"));
  }

  /** Rule 6: each throw is of a new exception with a written text. */
  private static void writtenThrows(String source) {
    Matcher thrown = Pattern.compile("\\bthrow\\b(.*)").matcher(source);
    while (thrown.find()) {
      holds("written out: throw" + thrown.group(1),
          thrown.group(1).matches(" new [A-Za-z]+Exception\\(\"\"\\);"));
    }
  }

  /** Rule 11: some sixty lines. */
  private static void lengthOfMethods(String source) {
    String[] lines = source.split("\n");
    int methods = 0;
    for (int i = 0; i < lines.length; i++) {
      Matcher method = METHOD.matcher(lines[i]);
      if (method.matches()) {
        int end = i;
        while (!lines[end].equals(method.group(1) + "}")) {
          end++;
        }
        methods++;
        holds("sixty lines at most:" + lines[i], end - i < 60);
      }
    }
    holds("methods were seen", methods > 40);
  }

  /** Rule 11: seven parameters, some twenty fields beside the constants. */
  private static void sizes(Class<?> type) {
    int fields = 0;
    for (Field field : type.getDeclaredFields()) {
      fields += Modifier.isStatic(field.getModifiers()) ? 0 : 1;
    }
    holds("twenty fields at most in " + type, fields <= 20);
    for (Method method : type.getDeclaredMethods()) {
      holds("seven parameters at most: " + method, method.getParameterCount() <= 7);
    }
  }

  /** Rule 5: static fields are final and hold constants. */
  private static void statics(Class<?> type) {
    for (Field field : type.getDeclaredFields()) {
      if (Modifier.isStatic(field.getModifiers())) {
        holds("final: " + field, Modifier.isFinal(field.getModifiers()));
        holds("a constant's type: " + field, STATIC_TYPES.contains(field.getType()));
      }
    }
  }

  /** Rules 2, 4 and 10: what a class calls outside the file, by its constants. */
  private static void called(Class<?> type) throws IOException {
    try (var file = SealBox.class.getResourceAsStream(type.getName() + ".class")) {
      for (String name : callsOf(new ClassConstants(file.readAllBytes()))) {
        holds(type + " may call " + name, name.startsWith("SealBox") || CALLED.contains(name));
      }
    }
  }

  private static Set<String> callsOf(ClassConstants constants) {
    Set<String> names = new TreeSet<>();
    for (int i = 1; i < constants.tags.length; i++) {
      int tag = constants.tags[i];
      if (tag == ClassConstants.METHOD || tag == ClassConstants.INTERFACE_METHOD) {
        names.add(constants.text(constants.first[i]) + "."
            + constants.text(constants.second[i]));
      }
      if (tag == ClassConstants.DYNAMIC) {
        names.add("a lambda, a method reference or + of texts");
      }
    }
    return names;
  }

  private static void same(String what, Set<String> got, Set<String> want) {
    holds(what + " are " + got + ", due are " + want, got.equals(want));
  }

  private static void holds(String what, boolean holds) {
    Check.due(what, holds ? 1 : 0, 1);
  }

  /** The constants of a class file, as the JVM's specification lays them out (4.4). */
  private static final class ClassConstants {
    static final int TEXT = 1;
    static final int LONG = 5;
    static final int DOUBLE = 6;
    static final int METHOD = 10;
    static final int INTERFACE_METHOD = 11;
    static final int HANDLE = 15;
    static final int DYNAMIC = 18;

    final int[] tags;
    final int[] first;
    final int[] second;
    private final String[] texts;

    ClassConstants(byte[] file) throws IOException {
      DataInputStream in = new DataInputStream(new ByteArrayInputStream(file));
      in.readLong();
      int n = in.readUnsignedShort();
      tags = new int[n];
      first = new int[n];
      second = new int[n];
      texts = new String[n];
      for (int i = 1; i < n; i++) {
        read(in, i);
        // These two take the next number too.
        i += tags[i] == LONG || tags[i] == DOUBLE ? 1 : 0;
      }
    }

    private void read(DataInputStream in, int i) throws IOException {
      tags[i] = in.readUnsignedByte();
      switch (tags[i]) {
        case TEXT: texts[i] = in.readUTF(); break;
        case LONG: case DOUBLE: in.readLong(); break;
        case 7: case 8: case 16: case 19: case 20: first[i] = in.readUnsignedShort(); break;
        case HANDLE: in.readUnsignedByte(); first[i] = in.readUnsignedShort(); break;
        default: first[i] = in.readUnsignedShort(); second[i] = in.readUnsignedShort(); break;
      }
    }

    /** The name that a constant of a class, or of a name with its type, leads to. */
    String text(int i) {
      return texts[i] != null ? texts[i] : text(first[i]);
    }
  }
}
