import java.lang.reflect.Constructor;
import java.lang.reflect.Field;
import java.lang.reflect.Method;
import java.lang.reflect.Modifier;
import java.util.Set;
import java.util.TreeSet;

/** The class shows what the document's public face has, and nothing else. */
public final class FaceTest {
  private static final Set<String> FACE = Set.of(
      "public NearDocs()",
      "public int NearDocs.write(int,int)",
      "public int NearDocs.wipe(int)",
      "public int NearDocs.type(int)",
      "public void NearDocs.clear()",
      "public int NearDocs.distance(int)",
      "public int NearDocs.end(int)",
      "public int NearDocs.whole(int)",
      "public int NearDocs.within(int)",
      "public int NearDocs.nearest()",
      "public int NearDocs.between(int,int)",
      "public int NearDocs.pairs(int)");

  private static Set<String> shown() {
    Set<String> members = new TreeSet<>();
    for (Constructor<?> c : NearDocs.class.getDeclaredConstructors()) {
      if (!Modifier.isPrivate(c.getModifiers())) {
        members.add(c.toString());
      }
    }
    for (Method m : NearDocs.class.getDeclaredMethods()) {
      if (!Modifier.isPrivate(m.getModifiers())) {
        members.add(m.toString());
      }
    }
    for (Field f : NearDocs.class.getDeclaredFields()) {
      if (!Modifier.isPrivate(f.getModifiers())) {
        members.add(f.toString());
      }
    }
    return members;
  }

  public static void main(String[] args) {
    boolean sameMembers = shown().equals(FACE);
    boolean publicFinal = Modifier.isPublic(NearDocs.class.getModifiers())
        && Modifier.isFinal(NearDocs.class.getModifiers());
    if (!sameMembers) {
      System.out.println("members are " + shown() + ", due are " + new TreeSet<>(FACE));
    }
    if (!publicFinal) {
      System.out.println("the class is not public and final");
    }
    if (!sameMembers || !publicFinal) {
      System.exit(1);
    }
    System.out.println("the public face is as due");
  }
}
