import java.io.IOException;
import java.nio.file.Files;
import java.nio.file.Path;
import java.util.List;

/** README.md's example does what its comments say. */
public final class ReadmeTest {
  public static void main(String[] args) throws IOException {
    example();
    sameCalls();
    Check.finish();
  }

  private static void example() {
    SealBox x = new SealBox();
    x.feed(0x00010203, 0x04050607, 0x08090a0b, 0x0c0d0e0f, 0);
    x.end(16);
    x.use(0);
    x.feed(1, 2, 3, 0, 0);
    x.end(12);
    x.iv();
    x.feed(0x17030300, 0x15000000, 0, 0, 0);
    x.end(5);
    x.beside();
    x.feed(0x68656c6c, 0x6f000000, 0, 0, 0);
    x.end(5);
    Check.due("README: seal", x.seal(), 21);
    Check.due("README: numbered", x.numbered(), 1);
    x.number(0);
    Check.due("README: back", x.back(2, 1), 21);
    Check.dueThrow("README: open", UnsupportedOperationException.class, () -> x.open());
    x.back(-1, 0);
    Check.due("README: open", x.open(), 5);
    Check.due("README: box", x.box(0), 0x68);
    Check.due("README: numbered", x.numbered(), 1);
    Check.due("README: count", x.count(7), 1);
  }

  /** The calls above are those of README.md, in their order. */
  private static void sameCalls() throws IOException {
    List<String> readme = Files.readAllLines(Path.of("README.md"));
    String here = Files.readString(Path.of("src/test/java/ReadmeTest.java"));
    int start = readme.indexOf("```java");
    int at = 0;
    int calls = 0;
    for (int i = start + 1; !readme.get(i).equals("```"); i++) {
      String call = readme.get(i).replaceAll(";.*", "").trim();
      int found = here.indexOf(call, at);
      Check.due("README.md's line is in the test: " + call, found >= at ? 1 : 0, 1);
      at = Math.max(at, found + call.length());
      calls++;
    }
    Check.due("calls of README.md", calls, 22);
  }
}
