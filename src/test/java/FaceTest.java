import java.lang.reflect.Constructor;
import java.lang.reflect.Field;
import java.lang.reflect.Method;
import java.lang.reflect.Modifier;
import java.util.Arrays;
import java.util.Set;
import java.util.TreeSet;

/** The public face of the document, and that nothing else of the class can be seen. */
public final class FaceTest {
  private static final Checks checks = new Checks("FaceTest");
  private static final Class<?> TYPE = NulledForest.class;

  private static final String[] FACE = {
    "public int NulledForest.rule(int,int,int,int,int)",
    "public boolean NulledForest.word(int)",
    "public int NulledForest.erase()",
    "public int NulledForest.clear()",
    "public boolean NulledForest.nullable(int)",
    "public int NulledForest.states()",
    "public int NulledForest.leads(int,int)",
    "public int NulledForest.reduces(int)",
    "public boolean NulledForest.stands(int,int)",
    "public int NulledForest.frontier(int)",
    "public boolean NulledForest.accepted()",
    "public boolean NulledForest.used(int,int,int)",
    "public int NulledForest.families(int,int,int)",
    "public int NulledForest.trees()",
    "public int NulledForest.length(int) throws java.lang.IllegalStateException,java.util.NoSuchElementException",
    "public int NulledForest.made(int,int) throws java.lang.IllegalStateException,"
        + "java.util.NoSuchElementException,java.lang.IndexOutOfBoundsException",
    "public static final int NulledForest.NONE",
    "public NulledForest()"
  };

  public static void main(String[] args) {
    theClass();
    theConstant();
    theMembers();
    namesOfItsOwn();
    classesInside();
    checks.end();
  }

  private static void theClass() {
    checks.says("public final class NulledForest");
    checks.due("a final public class", TYPE.getModifiers(), Modifier.PUBLIC | Modifier.FINAL);
    checks.due("whether it has no package", TYPE.getPackageName().isEmpty(), true);
    checks.due("whether it stands below Object alone", TYPE.getSuperclass() == Object.class, true);
    checks.due("interfaces", TYPE.getInterfaces().length, 0);
    checks.due("type parameters", TYPE.getTypeParameters().length, 0);
  }

  private static void theConstant() {
    checks.says("public static final int NONE = -1;");
    checks.due("NONE", NulledForest.NONE, -1);
  }

  /** The constant, the constructor and the 16 methods, and no other member that can be seen. */
  private static void theMembers() {
    checks.says("The public face");
    Set<String> seen = new TreeSet<>();
    for (Method m : TYPE.getDeclaredMethods()) {
      if (!Modifier.isPrivate(m.getModifiers())) {
        seen.add(m.toString());
      }
    }
    for (Field f : TYPE.getDeclaredFields()) {
      if (!Modifier.isPrivate(f.getModifiers())) {
        seen.add(f.toString());
      }
    }
    for (Constructor<?> c : TYPE.getDeclaredConstructors()) {
      seen.add(c.toString());
    }
    same(new TreeSet<>(Arrays.asList(FACE)), seen);
  }

  private static void namesOfItsOwn() {
    checks.says("No private method bears the name of a public one.");
    Set<String> names = new TreeSet<>();
    for (Method m : TYPE.getMethods()) {
      names.add(m.getName());
    }
    for (Method m : TYPE.getDeclaredMethods()) {
      if (Modifier.isPrivate(m.getModifiers())) {
        checks.due("whether private " + m.getName() + " bears a public name", names.contains(m.getName()), false);
      }
    }
  }

  private static void classesInside() {
    checks.says("the classes inside it, which are private or package-visible and static");
    for (Class<?> inside : TYPE.getDeclaredClasses()) {
      int m = inside.getModifiers();
      checks.due(inside + " is static", Modifier.isStatic(m), true);
      checks.due(inside + " is hidden", Modifier.isPublic(m) || Modifier.isProtected(m), false);
    }
  }

  private static void same(Set<String> want, Set<String> seen) {
    for (String member : want) {
      checks.due(member + " is there", seen.contains(member), true);
    }
    for (String member : seen) {
      checks.due(member + " is of the face", want.contains(member), true);
    }
  }
}
