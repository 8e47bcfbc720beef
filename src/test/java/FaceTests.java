import java.lang.reflect.Constructor;
import java.lang.reflect.Field;
import java.lang.reflect.Method;
import java.lang.reflect.Modifier;
import java.nio.file.Files;
import java.nio.file.Path;
import java.util.Arrays;
import java.util.Set;
import java.util.TreeSet;
import java.util.regex.Matcher;
import java.util.regex.Pattern;

/** The public face of the class, and those rules of LANGUAGE.md that its text can show. */
public final class FaceTests {
  private static final String[] FACE = {
    "became(int)", "beside(int,int,int,int,int)", "between(int,int,int)", "count(int)", "cut(int,int)",
    "far(int,int,int)", "hangs(int,int,int)", "has(int)", "line(int,int,int,int)", "never(int)",
    "of(int,int,int)", "onward(int,int)", "place(int,int)", "program()", "ran(int)", "run(int,int)",
    "same(int,int)", "slice(int,int)", "start(int,int)", "step(int)", "told(int)", "trace(int)",
    "traced(int,int)", "used(int)", "value(int)", "whole(int)",
  };

  private static int wrong = 0;

  private static void must(String what, boolean holds) {
    if (!holds) {
      wrong++;
      System.out.println("not so: " + what);
    }
  }

  public static void main(String[] args) throws Exception {
    face();
    nested();
    text();
    System.out.println(wrong == 0 ? "the face is as due" : wrong + " things are not as due");
    if (wrong != 0) {
      System.exit(1);
    }
  }

  private static String told(Method method) {
    StringBuilder text = new StringBuilder(method.getName()).append('(');
    for (Class<?> type : method.getParameterTypes()) {
      text.append(text.charAt(text.length() - 1) == '(' ? "" : ",").append(type.getName());
    }
    return text.append(')').toString();
  }

  private static void face() {
    must("the class is public and final", Modifier.isPublic(SliceLoom.class.getModifiers())
        && Modifier.isFinal(SliceLoom.class.getModifiers()));
    Set<String> open = new TreeSet<>();
    Set<String> openNames = new TreeSet<>();
    for (Method method : SliceLoom.class.getDeclaredMethods()) {
      if (Modifier.isPrivate(method.getModifiers())) continue;
      open.add(told(method));
      openNames.add(method.getName());
      must(method + " answers an int", method.getReturnType() == int.class);
      must(method + " is public and of an object", Modifier.isPublic(method.getModifiers())
          && !Modifier.isStatic(method.getModifiers()));
    }
    must("the methods are those of the document", open.equals(new TreeSet<>(Arrays.asList(FACE))));
    Constructor<?>[] made = SliceLoom.class.getDeclaredConstructors();
    must("one public constructor without arguments", made.length == 1 && made[0].getParameterCount() == 0
        && Modifier.isPublic(made[0].getModifiers()));
    for (Field field : SliceLoom.class.getDeclaredFields()) {
      must(field + " is private", Modifier.isPrivate(field.getModifiers()));
    }
    for (Class<?> type : allClasses()) {
      for (Method method : type.getDeclaredMethods()) {
        boolean clashes = type != SliceLoom.class || Modifier.isPrivate(method.getModifiers());
        must(method + " has a name of its own", !clashes || !openNames.contains(method.getName()));
        must(method + " has seven parameters at most", method.getParameterCount() <= 7);
      }
    }
  }

  private static Class<?>[] allClasses() {
    Class<?>[] inside = SliceLoom.class.getDeclaredClasses();
    Class<?>[] all = Arrays.copyOf(inside, inside.length + 1);
    all[inside.length] = SliceLoom.class;
    return all;
  }

  private static void nested() {
    must("twelve classes at most", allClasses().length <= 12);
    for (Class<?> type : SliceLoom.class.getDeclaredClasses()) {
      must(type + " is static", Modifier.isStatic(type.getModifiers()));
      must(type + " is not public", !Modifier.isPublic(type.getModifiers()) && !Modifier.isProtected(type.getModifiers()));
    }
    for (Class<?> type : allClasses()) {
      int own = 0;
      for (Field field : type.getDeclaredFields()) {
        if (Modifier.isStatic(field.getModifiers())) {
          must(field + " is final", Modifier.isFinal(field.getModifiers()));
        } else {
          own++;
        }
      }
      must(type + " has twenty fields at most", own <= 20);
    }
  }

  private static void text() throws Exception {
    String source = Files.readString(Path.of("src/main/java/SliceLoom.java"));
    String code = source.replaceAll("(?s)/\\*.*?\\*/", " ").replaceAll("//[^\n]*", " ");
    String[] barred = {"throw", "throws", "try", "catch", "finally", "synchronized", "assert", "package", "native",
      "volatile", "transient", "System", "Thread", "Random", "Exception", "Object", "Map"};
    for (String word : barred) {
      must("no " + word, !Pattern.compile("\\b" + word + "\\b").matcher(code).find());
    }
    must("no lambda or method reference", !code.contains("->") && !code.contains("::"));
    must("no name ending in Exact", !code.contains("Exact("));
    Matcher imports = Pattern.compile("import\\s+([\\w.]+);").matcher(code);
    while (imports.find()) {
      must("import of " + imports.group(1), imports.group(1).equals("java.util.Arrays"));
    }
    for (int i = 0; i < source.length(); i++) {
      must("characters below 256", source.charAt(i) < 256);
    }
  }
}
