import java.lang.reflect.Constructor;
import java.lang.reflect.Field;
import java.lang.reflect.Method;
import java.lang.reflect.Modifier;
import java.util.Arrays;
import java.util.Set;
import java.util.TreeSet;

/** The public face of the document, and that nothing else of the class can be seen. */
public final class FaceTest {
  private static final Checks checks = new Checks("FaceTest");

  private static final String[] FACE = {
    "public int NulledForest.rule(int,int,int,int,int)",
    "public boolean NulledForest.word(int)",
    "public int NulledForest.erase()",
    "public int NulledForest.clear()",
    "public boolean NulledForest.nullable(int)",
    "public int NulledForest.states()",
    "public int NulledForest.leads(int,int)",
    "public int NulledForest.reduces(int)",
    "public boolean NulledForest.stands(int,int)",
    "public int NulledForest.frontier(int)",
    "public boolean NulledForest.accepted()",
    "public boolean NulledForest.used(int,int,int)",
    "public int NulledForest.families(int,int,int)",
    "public int NulledForest.trees()",
    "public int NulledForest.length(int) throws java.lang.IllegalStateException,java.util.NoSuchElementException",
    "public int NulledForest.made(int,int) throws java.lang.IllegalStateException,"
        + "java.util.NoSuchElementException,java.lang.IndexOutOfBoundsException",
    "public static final int NulledForest.NONE",
    "public NulledForest()"
  };

  public static void main(String[] args) {
    Class<?> type = NulledForest.class;
    Set<String> seen = new TreeSet<>();
    Set<String> names = new TreeSet<>();
    for (Method m : type.getDeclaredMethods()) {
      if (!Modifier.isPrivate(m.getModifiers()) && !m.isSynthetic()) {
        seen.add(m.toString());
        names.add(m.getName());
      }
    }
    for (Field f : type.getDeclaredFields()) {
      if (!Modifier.isPrivate(f.getModifiers())) {
        seen.add(f.toString());
      }
    }
    for (Constructor<?> c : type.getDeclaredConstructors()) {
      seen.add(c.toString());
    }
    Set<String> want = new TreeSet<>(Arrays.asList(FACE));
    same(want, seen);
    checks.due("a final public class", type.getModifiers(), Modifier.PUBLIC | Modifier.FINAL);
    for (Method m : type.getDeclaredMethods()) {
      if (Modifier.isPrivate(m.getModifiers())) {
        checks.due("whether private " + m.getName() + " bears a public name", names.contains(m.getName()), false);
      }
    }
    for (Class<?> inside : type.getDeclaredClasses()) {
      int m = inside.getModifiers();
      checks.due(inside + " is static", Modifier.isStatic(m), true);
      checks.due(inside + " is hidden", Modifier.isPublic(m) || Modifier.isProtected(m), false);
    }
    checks.end();
  }

  private static void same(Set<String> want, Set<String> seen) {
    for (String member : want) {
      checks.due(member + " is there", seen.contains(member), true);
    }
    for (String member : seen) {
      checks.due(member + " is of the face", want.contains(member), true);
    }
  }
}
