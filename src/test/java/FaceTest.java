import java.lang.reflect.Constructor;
import java.lang.reflect.Field;
import java.lang.reflect.Method;
import java.lang.reflect.Modifier;
import java.util.ArrayList;
import java.util.List;
import java.util.TreeSet;

/** 'The public face' of the document, member by member, and the rules of LANGUAGE.md about members that a compiled class shows. */
public final class FaceTest extends Checks {
  private static final Class<?> FACE = EquationText.class;
  private static final String[] METHODS = {
      "public int EquationText.feed(int,int,int,int,int)",
      "public int EquationText.end(int) throws java.lang.IllegalArgumentException",
      "public int EquationText.read()",
      "public int EquationText.place()",
      "public int EquationText.nodes()",
      "public int EquationText.node(int,int)",
      "public int EquationText.part(int,int)",
      "public int EquationText.character(int,int)",
      "public int EquationText.write()",
      "public int EquationText.written(int)",
      "public int EquationText.rewind()"};
  private static final int MOST_CLASSES = 12;
  private static final int MOST_FIELDS = 20;
  private static final int MOST_PARAMETERS = 7;

  private static List<Class<?>> classes() {
    List<Class<?>> classes = new ArrayList<>(List.of(FACE));
    classes.addAll(List.of(FACE.getDeclaredClasses()));
    return classes;
  }

  /** "public final class EquationText" with nothing visible but what stands there. */
  private static void face() {
    TreeSet<String> visible = new TreeSet<>();
    for (Method method : FACE.getDeclaredMethods()) {
      if (!Modifier.isPrivate(method.getModifiers())) {
        visible.add(method.toString());
      }
    }
    for (Constructor<?> constructor : FACE.getDeclaredConstructors()) {
      visible.add(constructor.toString());
    }
    for (Field field : FACE.getDeclaredFields()) {
      if (!Modifier.isPrivate(field.getModifiers())) {
        visible.add(field.toString());
      }
    }
    TreeSet<String> wanted = new TreeSet<>(List.of(METHODS));
    wanted.add("public EquationText()");
    wanted.add("public static final int EquationText.NONE");
    due("the members that can be seen", visible, wanted);
    due("the class's modifiers", FACE.getModifiers(), Modifier.PUBLIC | Modifier.FINAL);
    due("the class above", FACE.getSuperclass(), Object.class);
    due("the interfaces", FACE.getInterfaces().length, 0);
    due("NONE", EquationText.NONE, -1);
  }

  /** Rules 1 and 11: classes inside are static and not public, and there are not too many. */
  private static void classesInside() {
    due("no more than " + MOST_CLASSES + " classes", classes().size() <= MOST_CLASSES, true);
    for (Class<?> inside : FACE.getDeclaredClasses()) {
      due(inside + " is static", Modifier.isStatic(inside.getModifiers()), true);
      due(inside + " is seen outside", inside.getModifiers() & (Modifier.PUBLIC | Modifier.PROTECTED), 0);
      due(inside + " has classes of its own", inside.getDeclaredClasses().length, 0);
    }
  }

  /** Rules 1 and 11: no other method bears the name of a public one, and none takes too much. */
  private static void methods() {
    TreeSet<String> names = new TreeSet<>();
    for (Method method : FACE.getMethods()) {
      names.add(method.getName());
    }
    for (Class<?> owner : classes()) {
      for (Method method : owner.getDeclaredMethods()) {
        due(method + " takes at most " + MOST_PARAMETERS, method.getParameterCount() <= MOST_PARAMETERS, true);
        if (Modifier.isPrivate(method.getModifiers())) {
          due(method + " has a public name", names.contains(method.getName()), false);
        }
      }
    }
  }

  /** Rules 5 and 11: static fields are constants, and no class has too many other fields. */
  private static void fields() {
    List<Class<?>> constants = List.of(int.class, long.class, boolean.class, char.class, String.class);
    for (Class<?> owner : classes()) {
      int own = 0;
      for (Field field : owner.getDeclaredFields()) {
        if (Modifier.isStatic(field.getModifiers())) {
          due(field + " is final", Modifier.isFinal(field.getModifiers()), true);
          due(field + " is a constant", constants.contains(field.getType()), true);
        } else {
          own++;
        }
      }
      due(owner + " has at most " + MOST_FIELDS + " fields", own <= MOST_FIELDS, true);
    }
  }

  public static void main(String[] args) {
    face();
    classesInside();
    methods();
    fields();
    finish();
  }
}
