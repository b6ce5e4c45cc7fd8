import java.lang.reflect.Constructor;
import java.lang.reflect.Field;
import java.lang.reflect.Method;
import java.lang.reflect.Modifier;
import java.util.TreeSet;

/** The class has the document's face and no other member that can be seen from outside. */
public final class FaceTest {
  private static final String[] METHODS = {
    "int append(int,int)", "int count(int)", "int empty(int)", "int held(int)",
    "int kind(int,int,int)", "int lose(int)", "int make(int,int,boolean)", "int module(int)",
    "int modules()", "int peek(int)", "int publish()", "int read(int,int,int,int)",
    "int remove(int)", "int send(int)", "int size(int,int,int)", "int spoil(int,int)",
    "int transaction()", "void retune()",
  };
  private static final String[] CONSTANTS = {
    "BAD=-1", "EXISTS=-3", "FULL=-4", "MISSING=-2", "NOT_EMPTY=-5", "WAITING=-6",
  };

  public static void main(String[] args) throws Exception {
    Due due = new Due();
    Class<?> face = CarouselMount.class;
    due.isTrue("public", Modifier.isPublic(face.getModifiers()));
    due.isTrue("final", Modifier.isFinal(face.getModifiers()));
    Constructor<?>[] constructors = face.getDeclaredConstructors();
    due.is("constructors", constructors.length, 1);
    due.is("its parameters", constructors[0].getParameterCount(), 0);
    due.isTrue("public constructor", Modifier.isPublic(constructors[0].getModifiers()));
    due.isTrue("methods " + methods(face), methods(face).equals(asText(METHODS)));
    due.isTrue("constants " + constants(face), constants(face).equals(asText(CONSTANTS)));
    for (Class<?> inside : face.getDeclaredClasses()) {
      due.isTrue(inside + " is static", Modifier.isStatic(inside.getModifiers()));
      due.isTrue(inside + " is not public", !Modifier.isPublic(inside.getModifiers()));
    }
    due.end();
  }

  private static String asText(String[] lines) {
    TreeSet<String> sorted = new TreeSet<>();
    for (String line : lines) {
      sorted.add(line);
    }
    return sorted.toString();
  }

  private static String methods(Class<?> face) {
    TreeSet<String> found = new TreeSet<>();
    for (Method method : face.getDeclaredMethods()) {
      if (!Modifier.isPrivate(method.getModifiers())) {
        StringBuilder text = new StringBuilder();
        for (Class<?> parameter : method.getParameterTypes()) {
          text.append(text.length() == 0 ? "" : ",").append(parameter.getName());
        }
        found.add(method.getReturnType().getName() + " " + method.getName() + "(" + text + ")");
      }
    }
    return found.toString();
  }

  private static String constants(Class<?> face) throws Exception {
    TreeSet<String> found = new TreeSet<>();
    for (Field field : face.getDeclaredFields()) {
      int modifiers = field.getModifiers();
      if (!Modifier.isPrivate(modifiers)) {
        boolean constant = Modifier.isStatic(modifiers) && Modifier.isFinal(modifiers)
            && Modifier.isPublic(modifiers) && field.getType() == int.class;
        found.add(constant ? field.getName() + "=" + field.getInt(null) : field.toString());
      }
    }
    return found.toString();
  }
}
