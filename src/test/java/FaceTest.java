import java.lang.reflect.Constructor;
import java.lang.reflect.Field;
import java.lang.reflect.Method;
import java.lang.reflect.Modifier;
import java.util.ArrayList;
import java.util.Arrays;
import java.util.List;
import java.util.TreeSet;

/** The class shows exactly the face of the document, and hides everything else. */
public final class FaceTest {
  private static final String[] FACE = {
    "int addDrone(int) IndexOutOfBounds IllegalState UnsupportedOperation",
    "int addPad(int) IndexOutOfBounds IllegalArgument IllegalState",
    "int takeOff(int) IndexOutOfBounds IllegalState UnsupportedOperation",
    "int land(int) IndexOutOfBounds IllegalState UnsupportedOperation",
    "int sendTo(int,int) IndexOutOfBounds IllegalState",
    "int setReserve(int) IllegalArgument",
    "int droneCount()",
    "int cellOf(int) IndexOutOfBounds",
    "int battery(int) IndexOutOfBounds",
    "boolean isFlying(int) IndexOutOfBounds",
    "boolean isInEmergency(int) IndexOutOfBounds",
    "int target(int) IndexOutOfBounds NoSuchElement",
    "int colour(int) IndexOutOfBounds",
    "int droneAt(int) IndexOutOfBounds NoSuchElement",
    "boolean isPad(int) IndexOutOfBounds",
    "int nearestPad(int) IndexOutOfBounds NoSuchElement",
    "int nearestPadByRings(int) IndexOutOfBounds NoSuchElement",
    "int addToFormation(int,int) IndexOutOfBounds IllegalArgument IllegalState",
    "int clearFormation(int) IndexOutOfBounds",
    "int assign(int) IndexOutOfBounds IllegalState",
    "long formationMask(int) IndexOutOfBounds",
    "long occupiedMask()",
    "int matchCount(int) IndexOutOfBounds",
    "int matchCountByScan(int) IndexOutOfBounds",
    "float coverage(int) IndexOutOfBounds Arithmetic",
    "int advance(int) IllegalArgument",
    "int now()",
    "int wantedCell(int) IndexOutOfBounds NoSuchElement",
    "int conflictCount()",
    "int conflictCountByCell()",
    "int droneAtRank(int) NoSuchElement",
    "int batteryAfter(int,int) IndexOutOfBounds IllegalArgument",
    "int cueColour(int,int,int) IndexOutOfBounds IllegalArgument IllegalState",
    "int cueCount()",
    "int nextCueTime() NoSuchElement",
    "int movedTotal()",
    "int blockedTotal()",
    "int emergencyTotal()",
    "int forcedTotal()",
    "int append(char) IllegalArgument IllegalState",
    "int run() IllegalArgument IllegalState",
    "int errorPosition() NoSuchElement",
    "int failedCommand() NoSuchElement",
    "int describeRow(int) IndexOutOfBounds",
    "char lineAt(int) IndexOutOfBounds",
    "int meanBatteryBits() Arithmetic",
    "double meanDistance() Arithmetic",
    "boolean isConsistent()",
    "int undo() IllegalState",
    "int save()",
    "int restore() IllegalState",
  };

  private static int wrong = 0;

  private static void due(String what, Object got, Object want) {
    if (!got.equals(want)) {
      wrong++;
      System.out.println(what + ": " + got + ", due is " + want);
    }
  }

  public static void main(String[] args) {
    Class<DroneLightShow> type = DroneLightShow.class;
    due("the class's modifiers", Modifier.toString(type.getModifiers()), "public final");
    due("public methods", publicMethods(type), new TreeSet<>(Arrays.asList(FACE)));
    for (Constructor<?> constructor : type.getDeclaredConstructors()) {
      due("the constructor", constructor.toString(), "public DroneLightShow()");
    }
    for (Field field : type.getDeclaredFields()) {
      due(field + " is private", Modifier.isPrivate(field.getModifiers()), true);
      boolean ok = !Modifier.isStatic(field.getModifiers()) || Modifier.isFinal(field.getModifiers());
      due(field + " is final if static", ok, true);
    }
    TreeSet<String> publicNames = new TreeSet<>();
    for (Method method : type.getMethods()) {
      publicNames.add(method.getName());
    }
    checkPrivateNames(type, publicNames);
    for (Class<?> inner : type.getDeclaredClasses()) {
      due(inner + " is static", Modifier.isStatic(inner.getModifiers()), true);
      due(inner + " is public", Modifier.isPublic(inner.getModifiers()), false);
      if (!inner.isEnum()) {
        checkPrivateNames(inner, publicNames);
      }
    }
    System.out.println(wrong == 0 ? "the face is as due" : wrong + " things are not as due");
    if (wrong != 0) {
      System.exit(1);
    }
  }

  private static TreeSet<String> publicMethods(Class<?> type) {
    TreeSet<String> result = new TreeSet<>();
    for (Method method : type.getDeclaredMethods()) {
      if (!Modifier.isPrivate(method.getModifiers())) {
        due(method + " is public", Modifier.isPublic(method.getModifiers()), true);
        result.add(signature(method));
      }
    }
    return result;
  }

  private static String signature(Method method) {
    List<String> parameters = new ArrayList<>();
    for (Class<?> parameter : method.getParameterTypes()) {
      parameters.add(parameter.getName());
    }
    StringBuilder text = new StringBuilder();
    text.append(method.getReturnType().getName()).append(' ').append(method.getName());
    text.append('(').append(String.join(",", parameters)).append(')');
    for (Class<?> exception : method.getExceptionTypes()) {
      text.append(' ').append(exception.getSimpleName().replace("Exception", ""));
    }
    return text.toString();
  }

  private static void checkPrivateNames(Class<?> type, TreeSet<String> publicNames) {
    for (Method method : type.getDeclaredMethods()) {
      if (!Modifier.isPublic(method.getModifiers())) {
        due(method + " bears a public name", publicNames.contains(method.getName()), false);
      }
    }
  }
}
