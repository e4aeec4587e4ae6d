import java.lang.reflect.Constructor;
import java.lang.reflect.Field;
import java.lang.reflect.Method;
import java.lang.reflect.Modifier;
import java.nio.file.Files;
import java.nio.file.Path;
import java.util.List;
import java.util.Set;
import java.util.TreeSet;
import java.util.regex.Matcher;
import java.util.regex.Pattern;

/** Those rules of ../shared/LANGUAGE.md that can be looked up in the class and its source. */
public final class LanguageTests {
  static int wrong = 0;

  static void hold(boolean holds, String rule) {
    if (!holds) {
      wrong++;
      System.out.println("broken: " + rule);
    }
  }

  static final String[] FACE = {"int prime(int)", "int support(int)", "int ofSupport(int,int)", "int relation(int,int,int)", "int sum(int,int,int)",
      "int number(int,int,int)", "int turn(int,int,int)", "int ofSum(int,int)", "int at(int,int,int)", "int value(int,int,int)", "int common(int,int)",
      "int row(int,int,int)", "int resultant(int)", "int formed(int,int,int)", "int isFormed(int,int)", "int by(int,int,int)", "int tried(int,int)",
      "int reason(int,int)", "int turned(int)", "int times(int,int)", "int all(int,int)", "int three(int)", "long chance(int,int,int)", "int see(int,int)",
      "int fits(int,int,int)", "int lots(int,int,int)", "int feed(int)", "int read()", "int write(int)", "int paper(int)", "int back()", "int list(int,int)",
      "int put(int,int,long)", "long get(int,int)", "int copy(int,int,int,int,int)", "int image()", "int restore()", "int count(int)"};

  static void face() {
    Class<?> c = DoubleRootSums.class;
    Set<String> due = new TreeSet<>(List.of(FACE)), found = new TreeSet<>(), names = new TreeSet<>();
    for (Method m : c.getDeclaredMethods()) {
      if (Modifier.isPrivate(m.getModifiers())) continue;
      StringBuilder b = new StringBuilder();
      for (Class<?> p : m.getParameterTypes()) b.append(b.length() == 0 ? "" : ",").append(p.getName());
      found.add(m.getReturnType() + " " + m.getName() + "(" + b + ")");
      names.add(m.getName());
      hold(Modifier.isPublic(m.getModifiers()) && !Modifier.isStatic(m.getModifiers()), "1: " + m);
    }
    hold(due.equals(found), "1: the methods are " + found);
    for (Method m : c.getDeclaredMethods()) hold(!Modifier.isPrivate(m.getModifiers()) || !names.contains(m.getName()), "1: private " + m);
    for (Constructor<?> k : c.getDeclaredConstructors()) hold(Modifier.isPublic(k.getModifiers()) && k.getParameterCount() == 0, "1: " + k);
    Set<String> constants = new TreeSet<>();
    for (Field f : c.getDeclaredFields()) if (!Modifier.isPrivate(f.getModifiers())) constants.add(f.getName());
    hold(constants.equals(Set.of("NONE", "BAD", "STATE", "FULL", "NO")), "1: the constants are " + constants);
    hold(Modifier.isFinal(c.getModifiers()), "1: final");
    hold(c.getDeclaredClasses().length + 1 <= 14, "11: classes");
    parts(c);
    for (Class<?> n : c.getDeclaredClasses()) {
      hold(Modifier.isStatic(n.getModifiers()) && !Modifier.isPublic(n.getModifiers()) && !Modifier.isProtected(n.getModifiers()), "1, 2: " + n);
      for (Method m : n.getDeclaredMethods()) hold(!Modifier.isPrivate(m.getModifiers()) || !names.contains(m.getName()), "1: a name of the face: " + m);
      parts(n);
    }
  }

  static void parts(Class<?> c) {
    int fields = 0;
    for (Field f : c.getDeclaredFields()) {
      if (Modifier.isStatic(f.getModifiers())) hold(Modifier.isFinal(f.getModifiers()), "5: " + f);
      else fields++;
    }
    hold(fields <= 22, "11: fields of " + c);
    for (Method m : c.getDeclaredMethods()) hold(m.getParameterCount() <= 7, "11: parameters of " + m);
  }

  static boolean isKnown(String library, String member) {
    switch (library) {
      case "Math":
        return Set.of("max", "min", "abs", "floorDiv", "floorMod", "ceilDiv", "ceilMod").contains(member);
      case "Integer": case "Long":
        return Set.of("MIN_VALUE", "MAX_VALUE", "compare", "max", "min", "sum", "signum", "bitCount", "numberOfTrailingZeros", "numberOfLeadingZeros",
            "highestOneBit", "lowestOneBit", "rotateLeft", "rotateRight", "reverse").contains(member);
      case "System":
        return member.equals("arraycopy");
      case "Arrays":
        return Set.of("copyOf", "copyOfRange", "fill").contains(member);
      case "List":
        return member.equals("of");
      default:
        return false;
    }
  }

  static void source() throws Exception {
    String text = Files.readString(Path.of("src/main/java/DoubleRootSums.java"));
    String code = text.replaceAll("(?s)/\\*.*?\\*/", "").replaceAll("//[^\n]*", "");
    for (int i = 0; i < code.length(); i++) hold(code.charAt(i) <= 127, "4: a sign at " + i);
    for (String word : List.of("throw", "throws", "try", "catch", "finally", "synchronized", "assert", "package", "protected", "Random", "Thread", "nanoTime",
        "currentTimeMillis"))
      hold(!Pattern.compile("\\b" + word + "\\b").matcher(code).find(), "6, 13: " + word);
    hold(!Pattern.compile("\\b(boolean equals|int hashCode|String toString) *\\(").matcher(code).find(), "6: equals, hashCode or toString of its own");
    String noCases = code.replaceAll("(case [^;{}]*?|default *)->", "");
    hold(!noCases.contains("->") && !code.contains("::"), "2: a lambda or a method reference");
    Set<String> brought = Set.of("java.util.Arrays", "java.util.ArrayList", "java.util.List", "java.util.Iterator");
    Matcher imports = Pattern.compile("import ([^;]*);").matcher(code);
    while (imports.find()) hold(brought.contains(imports.group(1)), "4: " + imports.group());
    Matcher calls = Pattern.compile("\\b(Math|Integer|Long|System|Arrays|List|Character|String)\\.(\\w+)").matcher(code);
    while (calls.find()) hold(isKnown(calls.group(1), calls.group(2)), "4: " + calls.group());
    int begin = -1;
    String[] lines = text.split("\n");
    for (int i = 0; i < lines.length; i++) {
      if (lines[i].matches("( {4}| {8})[A-Za-z].*\\) \\{")) begin = i;
      if (lines[i].matches("( {4}| {8})\\}") && begin >= 0) {
        hold(i - begin <= 70, "11: a long method at line " + (begin + 1));
        begin = -1;
      }
    }
  }

  public static void main(String[] args) throws Exception {
    face();
    source();
    System.out.println(wrong == 0 ? "the rules that can be looked up hold" : wrong + " rules are broken");
    if (wrong != 0) System.exit(1);
  }
}
