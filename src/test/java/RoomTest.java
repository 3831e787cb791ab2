import java.lang.reflect.Array;
import java.lang.reflect.Field;
import java.lang.reflect.Modifier;
import java.util.ArrayList;
import java.util.IdentityHashMap;
import java.util.List;
import java.util.Map;
import java.util.Random;

/** What an object holds, new and behind 512 of the dearest calls: all of it is counted in one room. */
public final class RoomTest {
  // Two hundred new objects, or some behind their dearest calls, are far from 7,300,000.
  private static final long NEW_MOST = 15_000;
  private static final long LATER_MOST = 200_000;

  public static void main(String[] args) throws IllegalAccessException {
    Check.due("elements of a new object", Check.of(elements(new PassChain()) <= NEW_MOST), 1);
    System.out.println("elements of a new object: " + elements(new PassChain()));
    String[] dear = {
      "P{!1+1+1+1+1+1+1+1+1+1+1+1+1+1+1+1+1+1+1+1+1+1+1;}Wa{}Wa{}Wa{}Wa{}Wa{}Wa{}Wa{}Wa{}Wa{}Wa{}P(1);",
      "!1+1+1+1+1+1+1+1+1+1+1+1+1+1+1+1+1+1+1+1+1+1;Wa{}Wa{}Wa{}Wa{}Wa{}Wa{}Wa{}Wa{}Wa{}Wa{}Wa{}Wa{}",
      "Wa{Ib{c=1;}{}Ic{d=1;}{}Wa{Id{e=1;}{}Ie{f=1;}{}Wf{If{a=1;}{}Ia{?b;}{}}}}",
      "?a;Ia{b=1;Ib{c=1;Ic{d=1;Id{e=1;Ie{f=1;}{}}{}}{}}{}}{?f;Wf{f=e+f;e=d+f;d=c+f;c=f-b;A[f]=f;}}!f;",
      "P{Wa{b=b+x;c=A[b];}}Q{Wa{P(b);}Ia{P(c);}{P(d);}}R{Wa{Q(x);}Q(a);}R(a);?a;Q(a);P(b);",
      "P{?a;?b;?c;}Q{P(a);P(b);Ia{P(c);}{P(d);}}R{Q(a);Q(b);Q(c);}R(a);R(b);Ia{?a;?b;?c;}{}",
    };
    long most = 0;
    for (String text : dear) {
      most = Math.max(most, behind512(text));
    }
    System.out.println("elements behind the dearest calls: " + most);
    Check.due("elements behind the dearest calls", Check.of(most <= LATER_MOST), 1);
    Check.end();
  }

  /** Rows grow by doubling, so that all that was made is at most twice of what is held then. */
  private static long behind512(String text) throws IllegalAccessException {
    PassChain x = Check.program(text);
    Random random = new Random(text.length());
    for (int i = text.length() + 1; i < 512; i++) {
      int part = random.nextInt(4);
      int k = random.nextInt(60);
      if (i % 3 == 0) {
        x.pass(random.nextInt(5));
      } else if (i % 3 == 1) {
        Check.answerOf(() -> Check.of(x.touch(part, k, random.nextInt(3), random.nextInt(30))));
      } else {
        Check.answerOf(() -> Check.of(x.swap(part, k)));
      }
    }
    return elements(x);
  }

  private static long elements(Object root) throws IllegalAccessException {
    Map<Object, Boolean> seen = new IdentityHashMap<>();
    List<Object> open = new ArrayList<>(List.of(root));
    long elements = 0;
    while (!open.isEmpty()) {
      Object one = open.remove(open.size() - 1);
      if (seen.put(one, true) != null) {
        continue;
      }
      if (one.getClass().isArray()) {
        elements += Array.getLength(one);
        for (int i = 0; one instanceof Object[] && i < Array.getLength(one); i++) {
          open.add(Array.get(one, i));
        }
        continue;
      }
      for (Field field : one.getClass().getDeclaredFields()) {
        if (!Modifier.isStatic(field.getModifiers())) {
          field.setAccessible(true);
          elements++;
          Object held = field.get(one);
          if (held != null && !field.getType().isPrimitive()) {
            open.add(held);
          }
        }
      }
    }
    return elements;
  }
}
