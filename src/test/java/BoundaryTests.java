import java.lang.reflect.InvocationTargetException;
import java.lang.reflect.Method;
import java.math.BigInteger;
import java.nio.file.Files;
import java.nio.file.Path;
import java.util.ArrayList;
import java.util.Arrays;
import java.util.HashSet;
import java.util.List;
import java.util.Set;

/**
 * For each sentence of the document that names a boundary case (too small, too large, empty, full, a
 * wrap-around, a refused call) a test of its own. Each tells the number of the promise, the sentence in the
 * document's words (they are looked up there) and the case.
 */
public final class BoundaryTests {
  static final int NONE = -1, BAD = -2, STATE = -3, FULL = -4, NO_ONE = -5, NOTHING = -11, PLACE = -13, SIZE = -14;
  static final long NO = Long.MIN_VALUE;
  static final int MIN = Integer.MIN_VALUE, MAX = Integer.MAX_VALUE;
  static final int[] PRIMES = {5, 7, 11, 13, 17, 19, 23, 29, 31};

  interface Case { void run(); }
  interface Ask { long of(DoubleRootSums x); }
  interface State { DoubleRootSums make(); }

  static int wrong = 0, sentences = 0;
  static String now = "";
  static String document = "";
  static final Set<Integer> promises = new HashSet<>();

  static void wrong(String what) {
    wrong++;
    System.out.println(now + ": " + what);
  }

  static void due(String call, long got, long want) {
    if (got != want) wrong(call + " answered " + got + ", due is " + want);
  }

  /** One sentence's case: the promise's number, words of the document, what is tested of them. */
  static void sentence(int promise, String words, String what, Case test) {
    now = "promise " + promise + ", \"" + words + "\", " + what;
    sentences++;
    promises.add(promise);
    if (!document.isEmpty() && !document.contains(words)) wrong("the document doesn't say so");
    try {
      test.run();
    } catch (RuntimeException | StackOverflowError | OutOfMemoryError e) {
      wrong("threw " + e);
    }
  }

  // What an object shows of all that it holds.

  static void note(List<String> l, String call, long answer) { l.add(call + " = " + answer); }

  static void noteToldOf(List<String> l, DoubleRootSums x, int sum, int exponents) {
    note(l, "ofSum(" + sum + ", 1)", x.ofSum(sum, 1));
    note(l, "ofSum(" + sum + ", 2)", x.ofSum(sum, 2));
    for (int e = 0; e < 13; e++)
      if ((exponents >> e & 1) == 1) note(l, "at(" + sum + ", " + e + ", 0)", x.at(sum, e, 0));
  }

  static void noteStock(List<String> l, DoubleRootSums x, int[] exponents) {
    note(l, "count(0)", x.count(0));
    int[] bits = new int[6];
    int supports = x.count(1), sums = x.count(2);
    note(l, "count(1)", supports);
    note(l, "count(2)", sums);
    for (int s = 0; s < supports && s < 6; s++) {
      bits[s] = x.ofSupport(s, 0);
      note(l, "ofSupport(" + s + ", 0)", bits[s]);
    }
    for (int s = 0; s < sums && s < 6; s++) {
      int support = x.ofSum(s, 0);
      note(l, "ofSum(" + s + ", 0)", support);
      exponents[s] = support >= 0 && support < 6 ? bits[support] : 0;
      noteToldOf(l, x, s, exponents[s]);
    }
  }

  static void noteSeen(List<String> l, DoubleRootSums x, int exponents) {
    note(l, "count(3)", x.count(3));
    for (int e = 0; e < 3; e++)
      if ((exponents >> e & 1) == 1) {
        note(l, "fits(0, " + e + ", 0)", x.fits(0, e, 0));
        note(l, "fits(0, " + e + ", 1)", x.fits(0, e, 1));
      }
  }

  /** All that x holds, by what it answers; the object is used up by it (some 300 calls at most). */
  static List<String> shownBy(DoubleRootSums x) {
    List<String> l = new ArrayList<>();
    int[] exponents = new int[6];
    for (int what = 4; what < 8; what++) note(l, "count(" + what + ")", x.count(what));
    noteStock(l, x, exponents);
    noteSeen(l, x, exponents[0]);
    for (int i = 0; i < 3; i++) for (int what = 0; what < 2; what++) note(l, "reason(" + i + ", " + what + ")", x.reason(i, what));
    for (int i = 0, n = Math.min(x.count(5), 40); i <= n; i++) note(l, "paper(" + i + ")", x.paper(i));
    for (int list = 0; list < 4; list++) {
      long held = 0;
      for (int i = 0; i < 21 && held != NO; i++) note(l, "get(" + list + ", " + i + ")", held = x.get(list, i));
      note(l, "put(" + list + ", -1, 0)", x.put(list, -1, 0));
    }
    for (int left = 0, i = 0; i < 9 && left >= 0; i++) {
      left = x.back();
      note(l, "back()", left);
      note(l, "count(0)", x.count(0));
      for (int s = 0; s < 2; s++) if (exponents[s] != 0) noteToldOf(l, x, s, exponents[s]);
    }
    note(l, "read()", x.read());
    noteStock(l, x, exponents);
    note(l, "restore()", x.restore());
    noteStock(l, x, exponents);
    noteSeen(l, x, exponents[0]);
    return l;
  }

  static void alike(List<String> got, List<String> want) {
    for (int i = 0; i < Math.max(got.size(), want.size()); i++) {
      String g = i < got.size() ? got.get(i) : "no more", w = i < want.size() ? want.get(i) : "no more";
      if (!g.equals(w)) {
        wrong("something is changed: afterwards " + g + ", without the call " + w);
        return;
      }
    }
  }

  /** Each of the calls is answered so, and all is afterwards as if none had been made. */
  static void refused(State state, long due, Ask... calls) {
    DoubleRootSums x = state.make();
    for (int i = 0; i < calls.length; i++) due("call " + i, calls[i].of(x), due);
    alike(shownBy(x), shownBy(state.make()));
  }

  /** All is after the calls as if none had been made. */
  static void changesNothing(State state, Ask... calls) {
    DoubleRootSums x = state.make();
    for (Ask call : calls) call.of(x);
    alike(shownBy(x), shownBy(state.make()));
  }

  // States.

  static int bits(int... exponents) {
    int b = 0;
    for (int e : exponents) b |= 1 << e;
    return b;
  }

  /** A SUM of KIND 0 with what is TOLD, of a SUPPORT of its own: pairs of an EXPONENT and a number. */
  static int made(DoubleRootSums x, int... pairs) {
    int b = 0;
    for (int i = 0; i < pairs.length; i += 2) b |= 1 << pairs[i];
    int sum = x.sum(x.support(b), 0, 0);
    for (int i = 0; i < pairs.length; i += 2) x.number(sum, pairs[i], pairs[i + 1]);
    return sum;
  }

  static DoubleRootSums fresh(int prime) {
    DoubleRootSums x = new DoubleRootSums();
    x.prime(prime);
    return x;
  }

  static void feedAll(DoubleRootSums x, String text) {
    for (int i = 0; i < text.length(); i++) x.feed(text.charAt(i));
  }

  static int readOf(DoubleRootSums x, String text) {
    feedAll(x, text);
    return x.read();
  }

  static void listOf(DoubleRootSums x, int list, long... row) {
    x.list(list, row.length);
    for (int i = 0; i < row.length; i++) x.put(list, i, row[i]);
  }

  /** Something of all that an object can hold; room is left everywhere. PRIME 11 now, 7 in THE IMAGE. */
  static DoubleRootSums rich() {
    DoubleRootSums x = new DoubleRootSums();
    x.support(bits(0, 1, 2));
    x.support(bits(3, 12));
    x.sum(0, 0, 0);
    for (int e = 0; e < 3; e++) x.number(0, e, 1);
    x.sum(1, 3, 2);
    x.number(1, 3, 20);
    x.see(1, 3);
    listOf(x, 0, 5, -4, Long.MAX_VALUE);
    x.list(1, 0);
    x.image();
    x.tried(0, 2);
    x.write(0);
    x.prime(2);
    x.number(1, 12, 50);
    x.turn(1, 2, 4);
    x.number(0, 1, 1);
    feedAll(x, "p3;a01");
    return x;
  }

  /** All is full: SUPPORTS, SUMS, SEEN, THE TEXT, steps; LIST 3 is as long as can be. PRIME 7. */
  static DoubleRootSums full() {
    DoubleRootSums x = new DoubleRootSums();
    int[] supports = {bits(0, 1, 2), bits(3, 12), bits(0, 1, 3), bits(2, 5), bits(1, 2, 4), bits(4, 8)};
    int[] kinds = {0, 3, 0, 1, 5, 4};
    for (int s : supports) x.support(s);
    for (int s = 0; s < 6; s++) x.sum(s, kinds[s], s);
    for (int e = 0; e < 3; e++) x.number(0, e, 1);
    for (int i = 0; i < 4; i++) x.see(1 + 7 * i, 3 + 7 * i);
    x.list(3, 20);
    x.put(3, 19, -7);
    x.list(0, 0);
    x.image();
    x.tried(0, 2);
    x.write(0);
    for (int i = 0; i < 5; i++) x.number(0, 1, 8 * i + 1);
    x.number(1, 12, 9);
    x.turn(1, 0, 9);
    x.prime(1);
    for (int i = 0; i < 26; i++) feedAll(x, "p2;");
    feedAll(x, "p2");
    return x;
  }

  // Plain reckoning, to compare with.

  static int mod(long v, int p) { return BigInteger.valueOf(v).mod(BigInteger.valueOf(p)).intValue(); }

  static long power(long v, int e, int p) { return BigInteger.valueOf(v).pow(e).mod(BigInteger.valueOf(p)).longValue(); }

  /** Whether the numbers at the exponents have a DOUBLE root. */
  static boolean hasDouble(int[] numbers, int[] exponents, int p) {
    for (int y = 1; y < p; y++) {
      long v = 0, s = 0;
      for (int i = 0; i < numbers.length; i++) {
        v += numbers[i] * power(y, exponents[i], p);
        if (exponents[i] > 0) s += (long) numbers[i] * exponents[i] * power(y, exponents[i] - 1, p);
      }
      if (mod(v, p) == 0 && mod(s, p) == 0) return true;
    }
    return false;
  }

  static int lotsOf(int[] exponents, int p, int n, int seed) {
    long z = seed & 0xffffffffL;
    int many = 0;
    for (int lot = 0; lot < n; lot++) {
      int[] drawn = new int[exponents.length];
      for (int i = 0; i < drawn.length; i++) {
        z = (z * 1103515245L + 12345L) & 0xffffffffL;
        drawn[i] = (int) (((z & 0x7fffffffL) >> 16) % p);
      }
      if (hasDouble(drawn, exponents, p)) many++;
    }
    return many;
  }

  // The promises.

  static void promise1() {
    String face = "PRIME 7; no SUPPORTS, no SUMS.";
    sentence(1, face, "PRIME", () -> due("count(0)", new DoubleRootSums().count(0), 7));
    sentence(1, "(1, so 7, at first)", "its number", () -> due("prime(0)", new DoubleRootSums().prime(0), 1));
    sentence(1, face, "no SUPPORTS", () -> {
      DoubleRootSums x = new DoubleRootSums();
      due("count(1)", x.count(1), 0);
      due("ofSupport(0, 0)", x.ofSupport(0, 0), NONE);
      due("sum(0, 0, 0)", x.sum(0, 0, 0), NONE);
      due("all(0, 0)", x.all(0, 0), NONE);
    });
    sentence(1, face, "no SUMS", () -> {
      DoubleRootSums x = new DoubleRootSums();
      due("count(2)", x.count(2), 0);
      due("ofSum(0, 0)", x.ofSum(0, 0), NONE);
      due("turned(0)", x.turned(0), NONE);
      due("write(0)", x.write(0), NONE);
      due("tried(0, 1)", x.tried(0, 1), NONE);
      due("chance(0, 2, 0)", x.chance(0, 2, 0), NO);
    });
    sentence(1, "`DoubleRootSums()`: PRIME 7; no SUPPORTS, no SUMS.", "nothing of an object made before", () -> {
      DoubleRootSums before = full();
      DoubleRootSums x = new DoubleRootSums();
      for (int what = 0; what < 8; what++) due("count(" + what + ")", x.count(what), what == 0 ? 7 : 0);
      for (int list = 0; list < 4; list++) due("get", x.get(list, 0), NO);
      due("restore()", x.restore(), STATE);
      x.prime(5);
      x.support(3);
      due("the one before", before.count(0), 7);
      due("the one before", before.ofSupport(0, 0), bits(0, 1, 2));
    });
    sentence(1, "holds the latest one (nothing at first)", "THE PAPER", () -> {
      DoubleRootSums x = new DoubleRootSums();
      due("paper(0)", x.paper(0), NONE);
      due("count(5)", x.count(5), 0);
    });
    sentence(1, "LISTS 0 .. 3 hold nothing (at first) or a row of 0 .. 20 longs.", "nothing at first", () -> {
      DoubleRootSums x = new DoubleRootSums();
      for (int list = 0; list < 4; list++) {
        due("get", x.get(list, 0), NO);
        due("put", x.put(list, 0, 1), NOTHING);
        due("copy", x.copy(list, 0, list, 0, 0), NOTHING);
      }
    });
    sentence(1, "An object is used for at most 512 calls after it has been made", "the 512th call", () -> {
      DoubleRootSums x = new DoubleRootSums();
      int s = made(x, 7, 6, 8, 5, 9, 4, 10, 3, 11, 2, 12, 1);
      for (int call = 9; call <= 511; call++) {
        if (call % 4 == 0) due("write", x.write(s), 26);
        else if (call % 4 == 1) due("number", x.number(s, 7, 6), 6);
        else if (call % 4 == 2) due("chance", x.chance(s, 20, 1) > 0 ? 1 : 0, 1);
        else due("resultant", x.resultant(s) >= 0 ? 1 : 0, 1);
      }
      due("the 512th", x.paper(0), '1');
    });
  }

  static void promise2() {
    sentence(2, "which is one of 5, 7, 11, 13, 17, 19, 23, 29, 31, numbered 0 .. 8", "each, the least and the greatest too", () -> {
      for (int k = 0; k < 9; k++) {
        DoubleRootSums x = new DoubleRootSums();
        due("prime(" + k + ")", x.prime(k), 1);
        due("count(0)", x.count(0), PRIMES[k]);
        due("again", x.prime(0), k);
        due("count(0)", x.count(0), 5);
      }
    });
    sentence(2, "The PRIME becomes that numbered k: the number it was. NONE.", "below 0", () ->
        refused(BoundaryTests::rich, NONE, x -> x.prime(-1), x -> x.prime(-2), x -> x.prime(MIN)));
    sentence(2, "The PRIME becomes that numbered k: the number it was. NONE.", "beyond 8", () ->
        refused(BoundaryTests::rich, NONE, x -> x.prime(9), x -> x.prime(31), x -> x.prime(32), x -> x.prime(MAX)));
    sentence(2, "The PRIME becomes that numbered k: the number it was.", "what was TOLD stays", () -> {
      DoubleRootSums x = new DoubleRootSums();
      int s = made(x, 0, 99, 12, 30);
      x.prime(0);
      due("NUMBER", x.at(s, 0, 1), 4);
      x.prime(8);
      due("TOLD", x.at(s, 0, 0), 99);
      due("NUMBER", x.at(s, 0, 1), 6);
      due("NUMBER", x.at(s, 12, 1), 30);
    });
  }

  static void promise3() {
    String words = "BAD: bits beyond 12, below 0, fewer than 2 or more than 6; FULL.";
    sentence(3, words, "bits beyond 12", () -> refused(BoundaryTests::rich, BAD, x -> x.support(bits(0, 13)), x -> x.support(bits(12, 13)),
        x -> x.support(bits(0, 1, 14)), x -> x.support(bits(0, 1, 2, 16)), x -> x.support(bits(5, 6, 30)), x -> x.support(bits(13, 14))));
    sentence(3, words, "bits 12 and 0 are not beyond", () -> {
      DoubleRootSums x = new DoubleRootSums();
      due("support", x.support(bits(11, 12)), 0);
      due("EXPONENTS", x.ofSupport(0, 0), bits(11, 12));
      due("support", x.support(bits(0, 1)), 1);
      due("EXPONENTS", x.ofSupport(1, 0), bits(0, 1));
    });
    sentence(3, words, "below 0", () -> refused(BoundaryTests::rich, BAD, x -> x.support(-1), x -> x.support(MIN), x -> x.support(MIN | 3),
        x -> x.support(MIN | bits(0, 5, 12)), x -> x.support(-bits(0, 1, 2))));
    sentence(3, words, "fewer than 2: none", () -> refused(BoundaryTests::rich, BAD, x -> x.support(0)));
    sentence(3, words, "fewer than 2: one", () -> {
      for (int e = 0; e < 13; e++) {
        int one = 1 << e;
        refused(BoundaryTests::rich, BAD, x -> x.support(one));
      }
    });
    sentence(3, words, "more than 6", () -> refused(BoundaryTests::rich, BAD, x -> x.support(bits(0, 1, 2, 3, 4, 5, 6)),
        x -> x.support(bits(6, 7, 8, 9, 10, 11, 12)), x -> x.support(bits(0, 2, 4, 6, 8, 10, 12)), x -> x.support(8191)));
    sentence(3, "2 to 6 EXPONENTS of 0 .. 12", "2 and 6 are enough and not too many", () -> {
      DoubleRootSums x = new DoubleRootSums();
      due("two", x.support(bits(0, 12)), 0);
      due("three", x.support(bits(0, 6, 12)), 1);
      due("six", x.support(bits(0, 2, 4, 8, 10, 12)), 2);
      due("six", x.support(bits(7, 8, 9, 10, 11, 12)), 3);
      due("how many", x.ofSupport(2, 1), 6);
      due("how many", x.ofSupport(0, 1), 2);
    });
    sentence(3, "SUPPORTS 0 .. 5, as they come (6 at most)", "six", () -> {
      DoubleRootSums x = new DoubleRootSums();
      for (int i = 0; i < 6; i++) due("support", x.support(bits(i, i + 1)), i);
      due("count(1)", x.count(1), 6);
      for (int i = 0; i < 6; i++) due("ofSupport", x.ofSupport(i, 0), bits(i, i + 1));
    });
    sentence(3, words, "FULL: a seventh", () -> refused(BoundaryTests::full, FULL, x -> x.support(bits(0, 12)), x -> x.support(bits(0, 1, 2))));
    sentence(3, "the first that a call's words name", "BAD ahead of FULL", () ->
        refused(BoundaryTests::full, BAD, x -> x.support(1), x -> x.support(-1), x -> x.support(bits(0, 13)), x -> x.support(8191)));
    sentence(3, "support() brings one more, also with EXPONENTS that are there.", "the same six times", () -> {
      DoubleRootSums x = new DoubleRootSums();
      for (int i = 0; i < 6; i++) due("support", x.support(bits(2, 9)), i);
      due("count(1)", x.count(1), 6);
    });
  }

  static void ofSupportDue(int exponents, int many, int span, int step, int area, int degree, int relations) {
    DoubleRootSums x = new DoubleRootSums();
    x.support(exponents);
    int[] want = {exponents, many, span, step, area, degree, relations};
    for (int what = 0; what < 7; what++) due("ofSupport(0, " + what + ") of bits " + exponents, x.ofSupport(0, what), want[what]);
  }

  static void promise4() {
    sentence(4, "SPAN: the greatest less the least.", "1 and 12", () -> {
      ofSupportDue(bits(0, 1), 2, 1, 1, 1, 0, 0);
      ofSupportDue(bits(11, 12), 2, 1, 1, 1, 0, 0);
      ofSupportDue(bits(0, 12), 2, 12, 12, 1, 0, 0);
    });
    sentence(4, "STEP: the greatest number that divides all differences of EXPONENTS.", "not of EXPONENTS themselves, of all of them", () -> {
      ofSupportDue(bits(1, 4, 7), 3, 6, 3, 2, 2, 1);
      ofSupportDue(bits(0, 4, 6), 3, 6, 2, 3, 3, 1);
      ofSupportDue(bits(0, 6, 12), 3, 12, 6, 2, 2, 1);
      ofSupportDue(bits(0, 6, 12, 9), 4, 12, 3, 4, 5, 2);
      ofSupportDue(bits(2, 5, 8, 11, 12), 5, 10, 1, 10, 16, 3);
    });
    sentence(4, "(none, if there are two EXPONENTS alone)", "how many RELATIONS", () -> ofSupportDue(bits(3, 9), 2, 6, 6, 1, 0, 0));
    sentence(4, "DEGREE: (twice SPAN, less (the second less the first), less (the last less the one ahead of it)) by STEP.",
        "the one between is second and ahead of the last; six EXPONENTS", () -> {
      ofSupportDue(bits(0, 1, 12), 3, 12, 1, 12, 12, 1);
      ofSupportDue(bits(7, 8, 9, 10, 11, 12), 6, 5, 1, 5, 8, 4);
      ofSupportDue(bits(0, 2, 4, 6, 8, 10), 6, 10, 2, 5, 8, 4);
    });
    String words = "DEGREE (5), how many RELATIONS (6). NONE.";
    sentence(4, words, "what below 0", () -> refused(BoundaryTests::rich, NONE, x -> x.ofSupport(0, -1), x -> x.ofSupport(0, MIN)));
    sentence(4, words, "what beyond 6", () -> refused(BoundaryTests::rich, NONE, x -> x.ofSupport(0, 7), x -> x.ofSupport(1, MAX)));
    sentence(4, words, "SUPPORT below 0", () -> refused(BoundaryTests::rich, NONE, x -> x.ofSupport(-1, 0), x -> x.ofSupport(MIN, 6)));
    sentence(4, words, "SUPPORT that hasn't come", () -> refused(BoundaryTests::rich, NONE, x -> x.ofSupport(2, 0), x -> x.ofSupport(5, 1),
        x -> x.ofSupport(6, 1), x -> x.ofSupport(MAX, 0)));
    sentence(4, words, "of six, the seventh", () -> refused(BoundaryTests::full, NONE, x -> x.ofSupport(6, 0)));
    sentence(4, "what is asked changes nothing", "all that can be asked", () -> {
      for (int what = 0; what < 7; what++) {
        int w = what;
        changesNothing(BoundaryTests::rich, x -> x.ofSupport(0, w), x -> x.ofSupport(1, w));
      }
    });
  }

  static void promise5() {
    String words = "100 plus what RELATION i has at EXPONENT e. NONE: support, i, no EXPONENT of it.";
    sentence(5, "(none, if there are two EXPONENTS alone)", "no RELATION 0 of two", () -> refused(BoundaryTests::rich, NONE, x -> x.relation(1, 0, 3),
        x -> x.relation(1, 0, 12), x -> x.relation(1, -1, 3)));
    sentence(5, "0 at all others", "100 there, ahead of the three and behind them", () -> {
      DoubleRootSums x = new DoubleRootSums();
      x.support(bits(0, 1, 3, 6, 10, 12));
      long[][] want = {{102, 97, 101, 100, 100, 100}, {100, 103, 95, 102, 100, 100}, {100, 100, 104, 93, 103, 100}, {100, 100, 100, 101, 97, 102}};
      int[] e = {0, 1, 3, 6, 10, 12};
      for (int i = 0; i < 4; i++) for (int k = 0; k < 6; k++) due("relation(0, " + i + ", " + e[k] + ")", x.relation(0, i, e[k]), want[i][k]);
    });
    sentence(5, "all three by their greatest common divisor", "the widest, the closest", () -> {
      DoubleRootSums x = new DoubleRootSums();
      x.support(bits(0, 6, 12));
      x.support(bits(0, 1, 12));
      x.support(bits(0, 11, 12));
      x.support(bits(2, 6, 8));
      int[][] at = {{0, 6, 12}, {0, 1, 12}, {0, 11, 12}, {2, 6, 8}};
      int[][] want = {{101, 98, 101}, {111, 88, 101}, {101, 88, 111}, {101, 97, 102}};
      for (int s = 0; s < 4; s++) for (int k = 0; k < 3; k++) due("relation(" + s + ", 0, " + at[s][k] + ")", x.relation(s, 0, at[s][k]), want[s][k]);
    });
    sentence(5, words, "i below 0", () -> refused(BoundaryTests::rich, NONE, x -> x.relation(0, -1, 0), x -> x.relation(0, MIN, 0)));
    sentence(5, words, "i beyond the last RELATION", () -> {
      refused(BoundaryTests::rich, NONE, x -> x.relation(0, 1, 0), x -> x.relation(0, 1, 2), x -> x.relation(0, MAX, 1));
      DoubleRootSums x = new DoubleRootSums();
      x.support(bits(7, 8, 9, 10, 11, 12));
      due("the last", x.relation(0, 3, 12), 101);
      due("behind it", x.relation(0, 4, 12), NONE);
      due("behind it", x.relation(0, 5, 12), NONE);
    });
    sentence(5, words, "no EXPONENT: between, below the least, beyond the greatest", () -> {
      DoubleRootSums x = new DoubleRootSums();
      x.support(bits(1, 4, 9));
      for (int e : new int[] {0, 2, 3, 5, 8, 10, 12, 13, -1, MIN, MAX}) due("relation(0, 0, " + e + ")", x.relation(0, 0, e), NONE);
    });
    sentence(5, words, "no EXPONENT: one that is like it by 32", () ->
        refused(BoundaryTests::rich, NONE, x -> x.relation(0, 0, 32), x -> x.relation(0, 0, 33), x -> x.relation(0, 0, -31), x -> x.relation(0, 0, -32)));
    sentence(5, words, "no SUPPORT", () -> refused(BoundaryTests::rich, NONE, x -> x.relation(-1, 0, 0), x -> x.relation(2, 0, 0), x -> x.relation(MIN, 0, 0),
        x -> x.relation(MAX, 0, 0)));
    sentence(5, "what is asked changes nothing", "a RELATION", () -> changesNothing(BoundaryTests::rich, x -> x.relation(0, 0, 0), x -> x.relation(0, 0, 2)));
  }

  static void promise6() {
    String words = "A SUM: its number. NONE: support, kind; BAD: figure; FULL.";
    sentence(6, words, "SUPPORT below 0", () -> refused(BoundaryTests::rich, NONE, x -> x.sum(-1, 0, 0), x -> x.sum(MIN, 0, 0)));
    sentence(6, words, "SUPPORT that hasn't come", () -> refused(BoundaryTests::rich, NONE, x -> x.sum(2, 0, 0), x -> x.sum(6, 0, 0), x -> x.sum(MAX, 0, 0)));
    sentence(6, words, "KIND below 0", () -> refused(BoundaryTests::rich, NONE, x -> x.sum(0, -1, 0), x -> x.sum(0, MIN, 9)));
    sentence(6, words, "KIND beyond 5", () -> refused(BoundaryTests::rich, NONE, x -> x.sum(0, 6, 0), x -> x.sum(0, MAX, 9)));
    sentence(6, words, "FIGURE below 0", () -> refused(BoundaryTests::rich, BAD, x -> x.sum(0, 0, -1), x -> x.sum(1, 5, MIN)));
    sentence(6, words, "FIGURE beyond 9", () -> refused(BoundaryTests::rich, BAD, x -> x.sum(0, 0, 10), x -> x.sum(1, 5, MAX)));
    sentence(6, "a FIGURE (0 .. 9)", "0 and 9, KINDS 0 and 5", () -> {
      DoubleRootSums x = new DoubleRootSums();
      x.support(3);
      due("sum(0, 0, 0)", x.sum(0, 0, 0), 0);
      due("sum(0, 5, 9)", x.sum(0, 5, 9), 1);
      due("kind", x.ofSum(1, 1), 5);
      due("figure", x.ofSum(1, 2), 9);
      due("kind", x.ofSum(0, 1), 0);
      due("figure", x.ofSum(0, 2), 0);
    });
    sentence(6, "SUMS 0 .. 5, as they come (6 at most)", "six, of six SUPPORTS", () -> {
      DoubleRootSums x = new DoubleRootSums();
      for (int i = 0; i < 6; i++) x.support(bits(i, 12));
      for (int i = 0; i < 6; i++) due("sum", x.sum(5 - i, i, i), i);
      due("count(2)", x.count(2), 6);
      for (int i = 0; i < 6; i++) {
        due("support", x.ofSum(i, 0), 5 - i);
        due("kind", x.ofSum(i, 1), i);
      }
    });
    sentence(6, words, "FULL: a seventh", () -> refused(BoundaryTests::full, FULL, x -> x.sum(0, 0, 0), x -> x.sum(5, 5, 9)));
    sentence(6, "the first that a call's words name", "NONE ahead of BAD ahead of FULL", () -> {
      refused(BoundaryTests::rich, NONE, x -> x.sum(2, 0, 10), x -> x.sum(0, 6, 10), x -> x.sum(0, -1, -1));
      refused(BoundaryTests::full, NONE, x -> x.sum(6, 0, 0), x -> x.sum(0, 6, 0));
      refused(BoundaryTests::full, BAD, x -> x.sum(0, 0, 10), x -> x.sum(0, 0, -1));
    });
    sentence(6, "TOLD numbers (0 .. 99; 0 at first), one for each EXPONENT", "0 at first, also behind a restore()", () -> {
      DoubleRootSums x = new DoubleRootSums();
      x.support(bits(0, 3, 12));
      x.image();
      x.sum(0, 0, 0);
      for (int e : new int[] {0, 3, 12}) due("told", x.at(0, e, 0), 0);
      x.number(0, 12, 99);
      x.number(0, 0, 98);
      x.restore();
      due("sum", x.sum(0, 0, 0), 0);
      for (int e : new int[] {0, 3, 12}) due("told", x.at(0, e, 0), 0);
    });
  }

  static void promise7() {
    String words = "TOLD at EXPONENT e becomes v: what it was. NONE: sum, no EXPONENT of it; BAD: v.";
    sentence(7, "TOLD numbers (0 .. 99; 0 at first)", "0 and 99", () -> {
      DoubleRootSums x = new DoubleRootSums();
      x.support(bits(0, 12));
      x.sum(0, 0, 0);
      due("number 99", x.number(0, 12, 99), 0);
      due("told", x.at(0, 12, 0), 99);
      due("number 0", x.number(0, 12, 0), 99);
      due("told", x.at(0, 12, 0), 0);
      due("number 99", x.number(0, 0, 99), 0);
      due("of the other", x.at(0, 12, 0), 0);
    });
    sentence(7, words, "v below 0", () -> refused(BoundaryTests::rich, BAD, x -> x.number(0, 0, -1), x -> x.number(1, 12, MIN)));
    sentence(7, words, "v beyond 99", () -> refused(BoundaryTests::rich, BAD, x -> x.number(0, 0, 100), x -> x.number(1, 12, MAX)));
    sentence(7, words, "SUM below 0", () -> refused(BoundaryTests::rich, NONE, x -> x.number(-1, 0, 1), x -> x.number(MIN, 0, 1)));
    sentence(7, words, "SUM that hasn't come", () -> refused(BoundaryTests::rich, NONE, x -> x.number(2, 0, 1), x -> x.number(6, 0, 1), x -> x.number(MAX, 0, 1)));
    sentence(7, words, "no EXPONENT: of another SUM, below 0, beyond 12", () -> refused(BoundaryTests::rich, NONE, x -> x.number(0, 3, 1), x -> x.number(0, 12, 1),
        x -> x.number(1, 0, 1), x -> x.number(1, 11, 1), x -> x.number(0, -1, 1), x -> x.number(0, 13, 1), x -> x.number(0, MIN, 1), x -> x.number(0, MAX, 1)));
    sentence(7, words, "no EXPONENT: one that is like it by 32", () ->
        refused(BoundaryTests::rich, NONE, x -> x.number(0, 32, 1), x -> x.number(0, -31, 1), x -> x.number(1, 44, 1)));
    sentence(7, "the first that a call's words name", "NONE ahead of BAD", () ->
        refused(BoundaryTests::rich, NONE, x -> x.number(2, 0, 100), x -> x.number(0, 3, 100), x -> x.number(0, 3, -1)));
  }

  static void promise8() {
    String words = "KIND, FIGURE become others: 10 times the KIND plus the FIGURE there were. NONE: sum, kind; BAD: figure.";
    sentence(8, words, "the least and the greatest", () -> {
      DoubleRootSums x = new DoubleRootSums();
      x.support(3);
      x.sum(0, 0, 0);
      due("turn", x.turn(0, 5, 9), 0);
      due("turn", x.turn(0, 0, 9), 59);
      due("turn", x.turn(0, 5, 0), 9);
      due("turn", x.turn(0, 0, 0), 50);
      due("kind", x.ofSum(0, 1), 0);
    });
    sentence(8, words, "SUM below 0", () -> refused(BoundaryTests::rich, NONE, x -> x.turn(-1, 0, 0), x -> x.turn(MIN, 0, 0)));
    sentence(8, words, "SUM that hasn't come", () -> refused(BoundaryTests::rich, NONE, x -> x.turn(2, 0, 0), x -> x.turn(6, 0, 0), x -> x.turn(MAX, 0, 0)));
    sentence(8, words, "KIND below 0", () -> refused(BoundaryTests::rich, NONE, x -> x.turn(0, -1, 0), x -> x.turn(1, MIN, 0)));
    sentence(8, words, "KIND beyond 5", () -> refused(BoundaryTests::rich, NONE, x -> x.turn(0, 6, 0), x -> x.turn(1, MAX, 0)));
    sentence(8, words, "FIGURE below 0", () -> refused(BoundaryTests::rich, BAD, x -> x.turn(0, 1, -1), x -> x.turn(1, 1, MIN)));
    sentence(8, words, "FIGURE beyond 9", () -> refused(BoundaryTests::rich, BAD, x -> x.turn(0, 1, 10), x -> x.turn(1, 1, MAX)));
    sentence(8, "the first that a call's words name", "NONE ahead of BAD", () ->
        refused(BoundaryTests::rich, NONE, x -> x.turn(0, 6, 10), x -> x.turn(0, -1, -1), x -> x.turn(2, 0, 10)));
    sentence(8, "KIND, FIGURE become others", "what is TOLD stays", () -> {
      DoubleRootSums x = rich();
      x.turn(0, 4, 9);
      for (int e = 0; e < 3; e++) due("told", x.at(0, e, 0), 1);
    });
  }

  static void promise9() {
    sentence(9, "A SUM is NOTHING, if all its NUMBERS are 0.", "of multiples of p TOLD", () -> {
      DoubleRootSums x = new DoubleRootSums();
      int s = made(x, 0, 7, 3, 98, 5, 0);
      due("how many aren't 0", x.ofSum(s, 5), 0);
      due("highest of COMMON", x.ofSum(s, 6), NO_ONE);
      due("roots", x.ofSum(s, 3), 126);
      due("double ones", x.ofSum(s, 4), 126);
      x.number(s, 5, 99);
      due("how many aren't 0", x.ofSum(s, 5), 1);
      due("highest of COMMON", x.ofSum(s, 6), 4);
      due("roots", x.ofSum(s, 3), 0);
    });
    sentence(9, "By a SUM that is NOTHING all x are ROOTS, DOUBLE, too", "by each PRIME, 0 isn't one", () -> {
      for (int k = 0; k < 9; k++) {
        DoubleRootSums x = fresh(k);
        int s = made(x, 0, 0, 12, 0);
        int all = 0;
        for (int y = 1; y < PRIMES[k]; y++) all |= 1 << y;
        due("roots by " + PRIMES[k], x.ofSum(s, 3), all);
        due("double ones by " + PRIMES[k], x.ofSum(s, 4), all);
      }
    });
    sentence(9, "ROOTS: those x (bits 1 .. 30) whose ORDER is 1 or more", "bit 30, bit 1", () -> {
      DoubleRootSums x = fresh(8);
      due("X + 1", x.ofSum(made(x, 0, 1, 1, 1), 3), 1 << 30);
      due("X - 1", x.ofSum(made(x, 0, 30, 1, 1), 3), 2);
      due("X^2 - 1", x.ofSum(made(x, 0, 30, 2, 1), 3), 2 | 1 << 30);
    });
    sentence(9, "ROOTS: those x (bits 1 .. 30) whose ORDER is 1 or more", "not bit 0: x is 1 .. p less 1", () -> {
      DoubleRootSums x = new DoubleRootSums();
      due("X^2 + X^3", x.ofSum(made(x, 2, 1, 3, 1), 3), bits(6));
      due("X^2", x.ofSum(made(x, 0, 0, 2, 1), 3), 0);
      due("X^2, double", x.ofSum(made(x, 0, 0, 2, 1), 4), 0);
    });
    sentence(9, "DOUBLE ones: 2 or more.", "ORDER 1 is none, 2 and 3 are", () -> {
      DoubleRootSums x = fresh(8);
      due("ORDER 1", x.ofSum(made(x, 0, 1, 1, 1), 4), 0);
      due("ORDER 2", x.ofSum(made(x, 0, 1, 1, 2, 2, 1), 4), 1 << 30);
      due("ORDER 3", x.ofSum(made(x, 0, 1, 1, 3, 2, 3, 3, 1), 4), 1 << 30);
      int s = x.times(made(x, 0, 1, 1, 29, 2, 1), 5);
      due("ORDER 2 and 1", x.ofSum(s, 4), 2);
      due("ORDER 2 and 1", x.ofSum(s, 3), bits(1, 5));
    });
    String words = "the highest power of X in COMMON (6; -5 none). NONE.";
    sentence(9, words, "-5 none, 0 if it is 1", () -> {
      DoubleRootSums x = new DoubleRootSums();
      due("NOTHING", x.ofSum(made(x, 0, 0, 1, 0), 6), NO_ONE);
      due("X + 1", x.ofSum(made(x, 0, 1, 1, 1), 6), 0);
      due("a number alone", x.ofSum(made(x, 4, 3, 5, 0), 6), 0);
      due("X alone", x.ofSum(made(x, 4, 0, 5, 3), 6), 0);
    });
    sentence(9, words, "the highest there can be", () -> {
      DoubleRootSums x = fresh(2);
      due("(X - 1)^12", x.ofSum(made(x, 0, 1, 1, 10, 11, 10, 12, 1), 6), 11);
      due("X^12", x.ofSum(made(x, 0, 0, 12, 5), 6), 11);
    });
    sentence(9, words, "what below 0", () -> refused(BoundaryTests::rich, NONE, x -> x.ofSum(0, -1), x -> x.ofSum(0, MIN)));
    sentence(9, words, "what beyond 6", () -> refused(BoundaryTests::rich, NONE, x -> x.ofSum(0, 7), x -> x.ofSum(1, MAX)));
    sentence(9, words, "SUM below 0", () -> refused(BoundaryTests::rich, NONE, x -> x.ofSum(-1, 0), x -> x.ofSum(MIN, 6)));
    sentence(9, words, "SUM that hasn't come", () -> {
      refused(BoundaryTests::rich, NONE, x -> x.ofSum(2, 0), x -> x.ofSum(6, 3), x -> x.ofSum(MAX, 0));
      refused(BoundaryTests::full, NONE, x -> x.ofSum(6, 0));
    });
    sentence(9, "what is asked changes nothing", "all that can be asked", () -> {
      for (int what = 0; what < 7; what++) {
        int w = what;
        changesNothing(BoundaryTests::rich, x -> x.ofSum(0, w), x -> x.ofSum(1, w));
      }
    });
  }

  static void promise10() {
    sentence(10, "All NUMBERS are taken MODULO the PRIME p", "p less 1, p, p plus 1, 99 by each PRIME", () -> {
      for (int k = 0; k < 9; k++) {
        int p = PRIMES[k];
        DoubleRootSums x = fresh(k);
        x.support(bits(0, 12));
        x.sum(0, 0, 0);
        for (int v : new int[] {0, 1, p - 1, p, p + 1, 2 * p - 1, 2 * p, 99}) {
          x.number(0, 12, v);
          due("NUMBER of " + v + " by " + p, x.at(0, 12, 1), v % p);
          due("TOLD of " + v + " by " + p, x.at(0, 12, 0), v);
        }
      }
    });
    sentence(10, "1 SIGNED under SUM: v; 0 less v, if e is odd.", "0 less v MODULO p, 0 stays 0, EXPONENTS 0 and 1, 11 and 12", () -> {
      DoubleRootSums x = new DoubleRootSums();
      int s = made(x, 0, 1, 1, 1, 11, 99, 12, 99);
      x.turn(s, 1, 7);
      int[] e = {0, 1, 11, 12}, want = {1, 6, 6, 1};
      for (int i = 0; i < 4; i++) due("at " + e[i], x.at(s, e[i], 1), want[i]);
      x.number(s, 1, 0);
      x.number(s, 11, 98);
      due("of 0", x.at(s, 1, 1), 0);
      due("of 98", x.at(s, 11, 1), 0);
    });
    sentence(10, "2 SCALED under SUM: v times (FIGURE plus 1).", "FIGURE 0 and 9", () -> {
      DoubleRootSums x = fresh(8);
      int s = made(x, 5, 99, 6, 1);
      x.turn(s, 2, 0);
      due("once", x.at(s, 5, 1), 99 % 31);
      due("once", x.at(s, 6, 1), 1);
      x.turn(s, 2, 9);
      due("ten times", x.at(s, 5, 1), 990 % 31);
      due("ten times", x.at(s, 6, 1), 10);
    });
    sentence(10, "3 BENT under SIGNED: a SIGNED's times (e plus FIGURE).", "e 0 and FIGURE 0; e 12 and FIGURE 9", () -> {
      DoubleRootSums x = fresh(8);
      int s = made(x, 0, 99, 11, 99, 12, 99);
      x.turn(s, 3, 0);
      due("at 0", x.at(s, 0, 1), 0);
      due("at 11", x.at(s, 11, 1), mod(-99 * 11, 31));
      x.turn(s, 3, 9);
      due("at 0", x.at(s, 0, 1), 99 * 9 % 31);
      due("at 11", x.at(s, 11, 1), mod(-99 * 20, 31));
      due("at 12", x.at(s, 12, 1), 99 * 21 % 31);
    });
    sentence(10, "4 LOW under SCALED: a SCALED's; 0 at the greatest EXPONENT.", "the greatest of its SUPPORT, no other", () -> {
      DoubleRootSums x = fresh(8);
      int s = made(x, 2, 4, 5, 6, 7, 8);
      x.turn(s, 4, 2);
      due("at 2", x.at(s, 2, 1), 12);
      due("at 5", x.at(s, 5, 1), 18);
      due("at 7", x.at(s, 7, 1), 0);
      due("TOLD at 7", x.at(s, 7, 0), 8);
      due("NUMBERS that aren't 0", x.ofSum(s, 5), 2);
      x.number(s, 7, 0);
      due("at 5 still", x.at(s, 5, 1), 18);
    });
    sentence(10, "5 SLOPED under SUM: e times v.", "e 0 and 12, whatever the FIGURE", () -> {
      DoubleRootSums x = fresh(8);
      int s = made(x, 0, 99, 1, 99, 12, 99);
      x.turn(s, 5, 9);
      due("at 0", x.at(s, 0, 1), 0);
      due("at 1", x.at(s, 1, 1), 6);
      due("at 12", x.at(s, 12, 1), 99 * 12 % 31);
    });
    String words = "At EXPONENT e TOLD (what 0), the NUMBER (1). NONE: sum, no EXPONENT of it, what.";
    sentence(10, words, "what below 0", () -> refused(BoundaryTests::rich, NONE, x -> x.at(0, 0, -1), x -> x.at(0, 0, MIN)));
    sentence(10, words, "what beyond 1", () -> refused(BoundaryTests::rich, NONE, x -> x.at(0, 0, 2), x -> x.at(1, 12, MAX)));
    sentence(10, words, "no EXPONENT", () -> {
      for (int e : new int[] {-1, 3, 4, 12, 13, 32, 33, -31, -32, MIN, MAX})
        refused(BoundaryTests::rich, NONE, x -> x.at(0, e, 0), x -> x.at(0, e, 1));
    });
    sentence(10, words, "no SUM", () -> refused(BoundaryTests::rich, NONE, x -> x.at(-1, 0, 0), x -> x.at(2, 0, 1), x -> x.at(6, 0, 0), x -> x.at(MIN, 0, 0),
        x -> x.at(MAX, 0, 1)));
    sentence(10, "what is asked changes nothing", "TOLD, the NUMBER", () -> changesNothing(BoundaryTests::rich, x -> x.at(0, 0, 0), x -> x.at(1, 12, 1)));
  }

  static void promise11() {
    sentence(11, "the sum over EXPONENTS of NUMBER times x to the power e (x to the power 0 is 1)", "at 0", () -> {
      DoubleRootSums x = new DoubleRootSums();
      due("with EXPONENT 0", x.value(made(x, 0, 3, 1, 4), 0, 0), 3);
      due("without", x.value(made(x, 1, 3, 2, 4), 0, 0), 0);
    });
    sentence(11, "0 to the power 0 is 1.", "VALUE at 0 of EXPONENT 0, SLOPE at 0 of EXPONENT 1, by each PRIME", () -> {
      for (int k = 0; k < 9; k++) {
        DoubleRootSums x = fresh(k);
        int s = made(x, 0, 99, 1, 98, 12, 97);
        due("VALUE", x.value(s, 0, 0), 99 % PRIMES[k]);
        due("SLOPE", x.value(s, 0, 1), 98 % PRIMES[k]);
      }
    });
    sentence(11, "of NUMBER times e times x to the power (e less 1) (of e 0 nothing)", "at 0, and EXPONENT 0 elsewhere", () -> {
      DoubleRootSums x = new DoubleRootSums();
      due("at 0 with EXPONENT 1", x.value(made(x, 0, 3, 1, 4), 0, 1), 4);
      due("at 0 without", x.value(made(x, 0, 3, 2, 4), 0, 1), 0);
      due("of EXPONENT 0 alone", x.value(made(x, 0, 3, 2, 0), 5, 1), 0);
      due("at 5", x.value(made(x, 0, 3, 2, 4), 5, 1), 40 % 7);
    });
    sentence(11, "VALUE at x (0 .. p less 1)", "p less 1, by each PRIME; p isn't one", () -> {
      for (int k = 0; k < 9; k++) {
        int p = PRIMES[k];
        DoubleRootSums x = fresh(k);
        int s = made(x, 0, 5, 11, 2, 12, 99);
        due("VALUE", x.value(s, p - 1, 0), mod(5 - 2 + 99, p));
        due("SLOPE", x.value(s, p - 1, 1), mod(22 - 99 * 12, p));
        due("ORDER", x.value(s, p - 1, 2), mod(102, p) != 0 ? 0 : mod(22 - 99 * 12, p) != 0 ? 1 : 2);
        for (int what = 0; what < 3; what++) due("at p", x.value(s, p, what), NONE);
      }
    });
    String words = "VALUE (what 0), SLOPE (1), ORDER (2) at x. NONE: sum, x (ORDER: also 0), what.";
    sentence(11, words, "x below 0", () -> refused(BoundaryTests::rich, NONE, x -> x.value(0, -1, 0), x -> x.value(0, -1, 1), x -> x.value(0, -1, 2),
        x -> x.value(0, MIN, 0)));
    sentence(11, words, "x beyond p less 1", () -> refused(BoundaryTests::rich, NONE, x -> x.value(0, 11, 0), x -> x.value(0, 11, 1), x -> x.value(0, 11, 2),
        x -> x.value(0, 31, 0), x -> x.value(0, MAX, 1)));
    sentence(11, words, "ORDER: also 0", () -> {
      refused(BoundaryTests::rich, NONE, x -> x.value(0, 0, 2), x -> x.value(1, 0, 2));
      DoubleRootSums x = new DoubleRootSums();
      due("of NOTHING", x.value(made(x, 0, 0, 1, 0), 0, 2), NONE);
      due("SLOPE at 0", x.value(0, 0, 1), 0);
    });
    sentence(11, words, "what below 0", () -> refused(BoundaryTests::rich, NONE, x -> x.value(0, 1, -1), x -> x.value(0, 1, MIN)));
    sentence(11, words, "what beyond 2", () -> refused(BoundaryTests::rich, NONE, x -> x.value(0, 1, 3), x -> x.value(0, 1, MAX)));
    sentence(11, words, "no SUM", () -> refused(BoundaryTests::rich, NONE, x -> x.value(-1, 1, 0), x -> x.value(2, 1, 0), x -> x.value(6, 1, 1),
        x -> x.value(MIN, 1, 2), x -> x.value(MAX, 1, 2)));
    sentence(11, "how often (X less x) divides the SUM, as sums of powers of X MODULO p (99, if it is NOTHING)", "99", () -> {
      DoubleRootSums x = new DoubleRootSums();
      int s = made(x, 0, 7, 3, 98);
      for (int y = 1; y < 7; y++) due("ORDER of " + y, x.value(s, y, 2), 99);
    });
    sentence(11, "(99, if it is NOTHING)", "a number alone isn't NOTHING: 0", () -> {
      DoubleRootSums x = new DoubleRootSums();
      int[] sums = {made(x, 0, 3, 1, 0), made(x, 0, 0, 1, 3), made(x, 5, 6, 9, 7, 12, 14)};
      for (int s : sums) for (int y = 1; y < 7; y++) due("ORDER of " + y, x.value(s, y, 2), 0);
    });
    sentence(11, "how often (X less x) divides the SUM, as sums of powers of X MODULO p", "0, 1, 2 and as often as can be", () -> {
      DoubleRootSums x = fresh(2);
      int s = made(x, 0, 1, 1, 10, 11, 10, 12, 1);
      due("(X - 1)^12", x.value(s, 1, 2), 12);
      due("elsewhere", x.value(s, 2, 2), 0);
      due("once", x.value(made(x, 0, 10, 1, 1), 1, 2), 1);
      due("twice", x.value(made(x, 5, 1, 6, 9, 7, 1), 1, 2), 2);
      due("X^12", x.value(made(x, 0, 0, 12, 1), 1, 2), 0);
    });
    sentence(11, "what is asked changes nothing", "all that can be asked", () ->
        changesNothing(BoundaryTests::rich, x -> x.value(0, 1, 0), x -> x.value(0, 1, 1), x -> x.value(0, 1, 2), x -> x.value(1, 10, 2)));
  }

  static void promise12() {
    String words = "Number i of COMMON, the lowest 0 (0 beyond the highest); -5 there is none. NONE: sum, i below 0.";
    sentence(12, words, "0 beyond the highest", () -> {
      DoubleRootSums x = new DoubleRootSums();
      // (X - 1)^2
      int s = made(x, 3, 1, 4, 5, 5, 1);
      long[] want = {6, 1, 0, 0};
      for (int i = 0; i < 4; i++) due("common(0, " + i + ")", x.common(s, i), want[i]);
      for (int i : new int[] {11, 12, 13, 14, 32, MAX}) due("common(0, " + i + ")", x.common(s, i), 0);
    });
    sentence(12, words, "nothing in common: it is 1", () -> {
      DoubleRootSums x = new DoubleRootSums();
      int s = made(x, 3, 1, 4, 5);
      due("0", x.common(s, 0), 1);
      due("1", x.common(s, 1), 0);
      int number = made(x, 3, 4, 9, 0);
      due("of a number alone", x.common(number, 0), 1);
      due("of a number alone", x.common(number, 1), 0);
    });
    sentence(12, words, "-5 there is none", () -> {
      DoubleRootSums x = new DoubleRootSums();
      int s = made(x, 0, 0, 12, 49);
      for (int i : new int[] {0, 1, 12, 13, MAX}) due("common(0, " + i + ")", x.common(s, i), NO_ONE);
    });
    sentence(12, words, "i below 0, also if there is none", () -> {
      refused(BoundaryTests::rich, NONE, x -> x.common(0, -1), x -> x.common(1, MIN));
      DoubleRootSums x = new DoubleRootSums();
      due("of NOTHING", x.common(made(x, 0, 0, 1, 0), -1), NONE);
    });
    sentence(12, words, "no SUM", () -> refused(BoundaryTests::rich, NONE, x -> x.common(-1, 0), x -> x.common(2, 0), x -> x.common(6, 0), x -> x.common(MIN, 0),
        x -> x.common(MAX, 0)));
    sentence(12, "(is ITS SLOPE NOTHING: LOWERED so made; none, if LOWERED is NOTHING)", "LOWERED, the highest 1", () -> {
      DoubleRootSums x = fresh(0);
      int s = made(x, 1, 3, 11, 4);
      due("highest", x.ofSum(s, 6), 10);
      for (int i = 0; i < 13; i++) due("common(0, " + i + ")", x.common(s, i), i == 0 ? 2 : i == 10 ? 1 : 0);
      int low = made(x, 2, 2, 7, 3, 9, 0);
      due("highest", x.ofSum(low, 6), 5);
      due("lowest", x.common(low, 0), 4);
      due("highest", x.common(low, 5), 1);
    });
    sentence(12, "the highest of its numbers that isn't 0 being 1", "(X - 1)^11 of (X - 1)^12, MODULO 11", () -> {
      DoubleRootSums x = fresh(2);
      int s = made(x, 0, 3, 1, 30, 11, 30, 12, 3);
      for (int i = 0; i < 14; i++) due("common(0, " + i + ")", x.common(s, i), i == 0 ? 10 : i == 11 ? 1 : 0);
    });
    sentence(12, "number i being the NUMBER at (the least EXPONENT plus i), or 0", "the least NUMBER is 0: a power of X in common", () -> {
      DoubleRootSums x = new DoubleRootSums();
      int s = made(x, 4, 0, 7, 3, 8, 5);
      // X^3 (3 + 5X), its slope X^2 (9 + 20X)
      for (int i = 0; i < 4; i++) due("common(0, " + i + ")", x.common(s, i), i == 2 ? 1 : 0);
    });
    sentence(12, "what is asked changes nothing", "COMMON", () -> changesNothing(BoundaryTests::rich, x -> x.common(0, 0), x -> x.common(1, 0)));
  }

  static void promise13() {
    sentence(13, "MATRIX: (twice SPAN, less 1) rows and columns.", "SPAN 1: one", () -> {
      DoubleRootSums x = new DoubleRootSums();
      int s = made(x, 4, 5, 5, 3);
      due("row(0, 0, 0)", x.row(s, 0, 0), 3);
      due("row(0, 0, 1)", x.row(s, 0, 1), NONE);
      due("row(0, 1, 0)", x.row(s, 1, 0), NONE);
    });
    sentence(13, "MATRIX: (twice SPAN, less 1) rows and columns.", "SPAN 12: twenty-three", () -> {
      DoubleRootSums x = fresh(8);
      int s = made(x, 0, 2, 12, 3);
      // Rows 0 .. 10: 3 at j, 2 at j + 12; the k-th behind these: 36 at k.
      for (int i : new int[] {0, 1, 9, 10, 11, 12, 21, 22})
        for (int j : new int[] {0, 1, 2, 10, 11, 12, 13, 21, 22}) {
          long want = i <= 10 ? (j == i ? 3 : j == i + 12 ? 2 : 0) : (j == i - 11 ? 5 : 0);
          due("row(0, " + i + ", " + j + ")", x.row(s, i, j), want);
        }
      due("row 23", x.row(s, 23, 0), NONE);
      due("column 23", x.row(s, 0, 23), NONE);
    });
    sentence(13, "Rows 0 .. SPAN less 2: row j has from column j on LOWERED, the highest number first, else 0.", "the first, the last, the row behind", () -> {
      DoubleRootSums x = fresh(8);
      int s = made(x, 2, 4, 3, 5, 5, 6);
      long[][] want = {{6, 0, 5, 4, 0}, {0, 6, 0, 5, 4}, {18, 0, 5, 0, 0}, {0, 18, 0, 5, 0}, {0, 0, 18, 0, 5}};
      for (int i = 0; i < 5; i++) for (int j = 0; j < 5; j++) due("row(0, " + i + ", " + j + ")", x.row(s, i, j), want[i][j]);
    });
    String words = "MATRIX, row i, column j. NONE.";
    sentence(13, words, "i below 0", () -> refused(BoundaryTests::rich, NONE, x -> x.row(0, -1, 0), x -> x.row(0, MIN, 0)));
    sentence(13, words, "i beyond the last row", () -> refused(BoundaryTests::rich, NONE, x -> x.row(0, 3, 0), x -> x.row(1, 17, 0), x -> x.row(0, MAX, 0)));
    sentence(13, words, "j below 0", () -> refused(BoundaryTests::rich, NONE, x -> x.row(0, 0, -1), x -> x.row(0, 0, MIN), x -> x.row(0, 2, -1)));
    sentence(13, words, "j beyond the last column", () -> refused(BoundaryTests::rich, NONE, x -> x.row(0, 0, 3), x -> x.row(1, 0, 17), x -> x.row(0, 0, MAX)));
    sentence(13, words, "no SUM", () -> refused(BoundaryTests::rich, NONE, x -> x.row(-1, 0, 0), x -> x.row(2, 0, 0), x -> x.row(6, 0, 0), x -> x.row(MIN, 0, 0),
        x -> x.row(MAX, 0, 0)));
    sentence(13, "what is asked changes nothing", "the MATRIX", () -> changesNothing(BoundaryTests::rich, x -> x.row(0, 0, 0), x -> x.row(1, 16, 16)));
  }

  static void promise14() {
    sentence(14, "RESULTANT: its determinant.", "SPAN 1: one number, 0 and others", () -> {
      DoubleRootSums x = new DoubleRootSums();
      due("of 3", x.resultant(made(x, 4, 5, 5, 3)), 3);
      due("of 0", x.resultant(made(x, 4, 5, 5, 7)), 0);
    });
    sentence(14, "RESULTANT: its determinant.", "SPAN 12", () -> {
      DoubleRootSums x = fresh(8);
      // Of X^12 + a: 12^12 a^11
      due("X^12 + 3", x.resultant(made(x, 0, 3, 12, 1)), power(12, 12, 31) * power(3, 11, 31) % 31);
      due("X^12", x.resultant(made(x, 0, 0, 12, 1)), 0);
    });
    sentence(14, "RESULTANT: its determinant.", "NOTHING: 0", () -> {
      DoubleRootSums x = new DoubleRootSums();
      due("SPAN 1", x.resultant(made(x, 0, 0, 1, 0)), 0);
      due("SPAN 12", x.resultant(made(x, 0, 7, 12, 14)), 0);
    });
    sentence(14, "RESULTANT: its determinant.", "rows to be changed about: the sign", () -> {
      DoubleRootSums x = fresh(8);
      int s = made(x, 0, 3, 1, 4, 2, 0);
      // {0, 4, 3}, {0, 4, 0}, {0, 0, 4}
      due("the highest is 0", x.resultant(s), 0);
      // LOWERED 5 + 0X + 2X^2: {2, 0, 5}, {4, 0, 0}, {0, 4, 0}: 2*0 - 0 + 5*16
      due("a column of zeroes below", x.resultant(made(x, 0, 5, 1, 0, 2, 2)), 80 % 31);
    });
    sentence(14, "RESULTANT. NONE.", "no SUM", () -> refused(BoundaryTests::rich, NONE, x -> x.resultant(-1), x -> x.resultant(2), x -> x.resultant(6),
        x -> x.resultant(MIN), x -> x.resultant(MAX)));
    sentence(14, "what is asked changes nothing", "RESULTANT", () -> changesNothing(BoundaryTests::rich, x -> x.resultant(0), x -> x.resultant(1)));
  }

  /** SUPPORTS of three, of two and of six EXPONENTS; LIST 0 holds a long, LIST 1 none, LIST 2 four. PRIME 7. */
  static DoubleRootSums formable() {
    DoubleRootSums x = new DoubleRootSums();
    x.support(bits(0, 1, 3));
    x.support(bits(0, 5));
    x.support(bits(0, 1, 2, 3, 4, 5));
    listOf(x, 0, 1);
    x.list(1, 0);
    listOf(x, 2, 1, 2, 3, 4);
    x.image();
    x.prime(0);
    x.prime(1);
    return x;
  }

  static DoubleRootSums formableFull() {
    DoubleRootSums x = formable();
    for (int i = 0; i < 6; i++) x.sum(0, 0, 0);
    x.prime(2);
    x.prime(1);
    return x;
  }

  static void promise15() {
    String words = "NONE: support, list; BAD: x; NOTHING; PLACE: fewer places than RELATIONS; FULL.";
    sentence(15, words, "SUPPORT below 0", () -> refused(BoundaryTests::formable, NONE, x -> x.formed(-1, 1, 0), x -> x.formed(MIN, 1, 0)));
    sentence(15, words, "SUPPORT that hasn't come", () -> refused(BoundaryTests::formable, NONE, x -> x.formed(3, 1, 0), x -> x.formed(6, 1, 0),
        x -> x.formed(MAX, 1, 0)));
    sentence(15, words, "LIST below 0", () -> refused(BoundaryTests::formable, NONE, x -> x.formed(0, 1, -1), x -> x.formed(0, 1, MIN)));
    sentence(15, words, "LIST beyond 3", () -> refused(BoundaryTests::formable, NONE, x -> x.formed(0, 1, 4), x -> x.formed(0, 1, MAX)));
    sentence(15, words, "x 0 or below", () -> refused(BoundaryTests::formable, BAD, x -> x.formed(0, 0, 0), x -> x.formed(0, -1, 0), x -> x.formed(0, MIN, 0)));
    sentence(15, words, "x p or beyond", () -> refused(BoundaryTests::formable, BAD, x -> x.formed(0, 7, 0), x -> x.formed(0, 8, 0), x -> x.formed(0, MAX, 0)));
    sentence(15, words, "NOTHING, also of two EXPONENTS", () -> refused(BoundaryTests::formable, NOTHING, x -> x.formed(0, 1, 3), x -> x.formed(1, 1, 3)));
    sentence(15, words, "PLACE", () -> {
      refused(BoundaryTests::formable, PLACE, x -> x.formed(0, 1, 1), x -> x.formed(2, 1, 0), x -> x.formed(2, 1, 1));
      DoubleRootSums x = formable();
      x.list(2, 3);
      due("three places of four", x.formed(2, 1, 2), PLACE);
      due("three places of one", x.formed(0, 1, 2), 0);
    });
    sentence(15, words, "as many places as RELATIONS are enough, more, too", () -> {
      DoubleRootSums x = formable();
      due("one of one", x.formed(0, 1, 0), 0);
      due("four of four", x.formed(2, 1, 2), 1);
      due("four of one", x.formed(0, 1, 2), 2);
      due("none of none", x.formed(1, 1, 1), 3);
      for (int e : new int[] {0, 1, 3}) due("alike at " + e, x.at(2, e, 0), x.at(0, e, 0));
      due("of two", x.ofSum(3, 5), 0);
      due("supports", x.count(1), 3);
    });
    sentence(15, words, "FULL", () -> refused(BoundaryTests::formableFull, FULL, x -> x.formed(0, 1, 0), x -> x.formed(1, 1, 1), x -> x.formed(2, 6, 2)));
    sentence(15, "the first that a call's words name", "NONE, BAD, NOTHING, PLACE, FULL", () -> {
      refused(BoundaryTests::formableFull, NONE, x -> x.formed(3, 0, 3), x -> x.formed(0, 0, 4), x -> x.formed(0, 7, -1));
      refused(BoundaryTests::formableFull, BAD, x -> x.formed(0, 0, 3), x -> x.formed(0, 7, 1));
      refused(BoundaryTests::formableFull, NOTHING, x -> x.formed(0, 1, 3));
      refused(BoundaryTests::formableFull, PLACE, x -> x.formed(0, 1, 1));
      refused(BoundaryTests::formable, BAD, x -> x.formed(0, 0, 3), x -> x.formed(0, 0, 1));
    });
    sentence(15, "Numbers of a LIST below 0 are MODULO p 0 .. p less 1.", "-1, -p, the least and the greatest long", () -> {
      long[] ts = {-1, -7, -8, Long.MIN_VALUE, Long.MIN_VALUE + 1, Long.MAX_VALUE, 7, 6, 1L << 32, -(1L << 32)};
      for (long t : ts) {
        DoubleRootSums x = formable();
        x.put(0, 0, t);
        int s = x.formed(0, 1, 0);
        int m = BigInteger.valueOf(t).mod(BigInteger.valueOf(7)).intValue();
        due("at 0 of " + t, x.at(s, 0, 0), 2 * m % 7);
        due("at 1 of " + t, x.at(s, 1, 0), mod(-3 * m, 7));
        due("at 3 of " + t, x.at(s, 3, 0), m);
        due("the LIST stays", x.get(0, 0), t);
      }
    });
    sentence(15, "FORM: of a SUPPORT, by x (1 .. p less 1)", "1 and p less 1, by each PRIME", () -> {
      for (int k = 0; k < 9; k++) {
        int p = PRIMES[k];
        DoubleRootSums x = formable();
        x.prime(k);
        due("1", x.formed(0, 1, 0), 0);
        due("p less 1", x.formed(0, p - 1, 0), 1);
        // 2, -3, 1; at odd EXPONENTS over -1
        int[] e = {0, 1, 3}, at1 = {2, -3, 1}, atLast = {2, 3, -1};
        for (int i = 0; i < 3; i++) {
          due("at 1", x.at(0, e[i], 0), mod(at1[i], p));
          due("at p less 1", x.at(1, e[i], 0), mod(atLast[i], p));
        }
        due("double", x.value(0, 1, 2) >= 2 ? 1 : 0, 1);
        due("double", x.value(1, p - 1, 2) >= 2 ? 1 : 0, 1);
      }
    });
    sentence(15, "OVER x (not 0): what times x is 1.", "each x of each PRIME", () -> {
      for (int k = 0; k < 9; k++) {
        int p = PRIMES[k];
        for (int y = 1; y < p; y++) {
          DoubleRootSums x = formable();
          x.prime(k);
          int s = x.formed(0, y, 0);
          int[] e = {0, 1, 3}, relation = {2, -3, 1};
          for (int i = 0; i < 3; i++) due("NUMBER times " + y + " to the power " + e[i] + " by " + p, x.at(s, e[i], 0) * power(y, e[i], p) % p, mod(relation[i], p));
        }
      }
    });
    sentence(15, "A SUM of KIND 0 (FIGURE 0) more, of a SUPPORT, its NUMBERS as TOLD by FORM", "the sixth has room", () -> {
      DoubleRootSums x = formable();
      for (int i = 0; i < 6; i++) due("formed", x.formed(i % 3, 1, 2), i);
      due("formed", x.formed(0, 1, 2), FULL);
      for (int i = 0; i < 6; i++) {
        due("support", x.ofSum(i, 0), i % 3);
        due("kind", x.ofSum(i, 1), 0);
        due("figure", x.ofSum(i, 2), 0);
      }
      due("steps", x.count(6), 0);
    });
  }

  static void promise16() {
    String words = "Whether it is FORMED at x: 1, 0. NONE: sum; BAD: x.";
    sentence(16, "it is FORMED at each x.", "NOTHING, by each PRIME", () -> {
      for (int k = 0; k < 9; k++) {
        DoubleRootSums x = fresh(k);
        int s = made(x, 0, 0, 1, PRIMES[k], 5, 0);
        for (int y = 1; y < PRIMES[k]; y++) due("isFormed(0, " + y + ")", x.isFormed(s, y), 1);
      }
    });
    sentence(16, "A SUM of two EXPONENTS is FORMED only if it is NOTHING.", "NOTHING, and not", () -> {
      DoubleRootSums x = new DoubleRootSums();
      int s = made(x, 0, 7, 7, 14);
      for (int y = 1; y < 7; y++) due("NOTHING", x.isFormed(s, y), 1);
      x.number(s, 0, 1);
      for (int y = 1; y < 7; y++) due("1", x.isFormed(s, y), 0);
      x.number(s, 7, 6);
      due("a DOUBLE root", x.ofSum(s, 4), 2);
      for (int y = 1; y < 7; y++) due("1 and 6", x.isFormed(s, y), 0);
    });
    sentence(16, words, "1 and p less 1", () -> {
      DoubleRootSums x = new DoubleRootSums();
      // (X - 1)^2, (X + 1)^2
      int one = made(x, 0, 1, 1, 5, 2, 1), last = made(x, 0, 1, 1, 2, 2, 1);
      for (int y = 1; y < 7; y++) {
        due("(X - 1)^2 at " + y, x.isFormed(one, y), y == 1 ? 1 : 0);
        due("(X + 1)^2 at " + y, x.isFormed(last, y), y == 6 ? 1 : 0);
      }
    });
    sentence(16, words, "x 0 or below", () -> refused(BoundaryTests::rich, BAD, x -> x.isFormed(0, 0), x -> x.isFormed(0, -1), x -> x.isFormed(1, MIN)));
    sentence(16, words, "x p or beyond", () -> refused(BoundaryTests::rich, BAD, x -> x.isFormed(0, 11), x -> x.isFormed(1, 12), x -> x.isFormed(1, MAX)));
    sentence(16, words, "no SUM, also with a bad x", () -> refused(BoundaryTests::rich, NONE, x -> x.isFormed(-1, 1), x -> x.isFormed(2, 1), x -> x.isFormed(6, 1),
        x -> x.isFormed(2, 0), x -> x.isFormed(MIN, 11), x -> x.isFormed(MAX, 1)));
    sentence(16, "what is asked changes nothing", "whether it is FORMED", () -> changesNothing(BoundaryTests::rich, x -> x.isFormed(0, 1), x -> x.isFormed(1, 10)));
  }

  static void promise17() {
    String words = "BY: t of RELATION i; -5 it isn't FORMED. NONE: sum, i; BAD: x.";
    sentence(17, "that of RELATION 0 the least by which it can be so, then that of RELATION 1 the least by which it still can, and so on",
        "RELATIONS that come to one another MODULO p", () -> {
      DoubleRootSums x = fresh(0);
      // RELATIONS MODULO 5: 0, 4, 1, 0, 0; 0, 1, 3, 1, 0; 0, 0, 1, 4, 0: all three together are 0.
      x.support(bits(0, 1, 6, 11, 12));
      listOf(x, 0, 1, 2, 3);
      int s = x.formed(0, 2, 0);
      long[] want = {0, 1, 2};
      for (int i = 0; i < 3; i++) due("by of 1, 2, 3", x.by(s, 2, i), want[i]);
      listOf(x, 0, 4, 0, 0);
      int t = x.formed(0, 4, 0);
      long[] less = {0, 1, 1};
      for (int i = 0; i < 3; i++) due("by of 4, 0, 0", x.by(t, 4, i), less[i]);
      // 0, 4, 1, 0 and 0, 1, 4, 0
      x.support(bits(0, 1, 6, 7));
      listOf(x, 0, 2, 0);
      int u = x.formed(1, 1, 0);
      due("by of 2, 0", x.by(u, 1, 0), 0);
      due("by of 2, 0", x.by(u, 1, 1), 3);
    });
    sentence(17, "then that of RELATION 1 the least by which it still can, and so on", "whatever was asked before", () -> {
      DoubleRootSums x = fresh(0);
      x.support(bits(0, 1, 6, 11, 12));
      x.support(bits(0, 1, 2, 3, 4));
      listOf(x, 0, 1, 2, 3);
      int s = x.formed(0, 2, 0);
      long[] want = {0, 1, 2};
      for (int t = 0; t < 5; t++) {
        listOf(x, 0, t, 3, 4 - t);
        int other = x.formed(1, 3, 0);
        long[] wantOther = {t, 3, 4 - t};
        for (int i = 0; i < 3; i++) {
          due("of the other", x.by(other, 3, i), wantOther[i]);
          due("of 1, 2, 3", x.by(s, 2, i), want[i]);
        }
      }
    });
    sentence(17, "BY: such t (0 .. p less 1 each)", "each t, 0 and p less 1 too, by each PRIME", () -> {
      for (int k = 0; k < 9; k++) {
        int p = PRIMES[k];
        for (int t = 0; t < p; t++) {
          DoubleRootSums x = fresh(k);
          // 2, -3, 1 and 3, -4, 1 and 2, -3, 1: none that begins with 1
          x.support(bits(0, 1, 3));
          x.support(bits(2, 3, 6, 12));
          listOf(x, 0, t, p - 1 - t);
          int y = 1 + t % (p - 1);
          int three = x.formed(0, y, 0), four = x.formed(1, y, 0);
          due("of three by " + p, x.by(three, y, 0), t);
          due("of four by " + p, x.by(four, y, 0), t);
          due("of four by " + p, x.by(four, y, 1), p - 1 - t);
          due("isFormed", x.isFormed(three, y), 1);
          due("isFormed", x.isFormed(four, y), 1);
        }
      }
    });
    sentence(17, "BY: such t (0 .. p less 1 each)", "0, p less 1, of numbers below 0", () -> {
      DoubleRootSums x = new DoubleRootSums();
      x.support(bits(0, 1, 2, 3));
      listOf(x, 0, -1, Long.MIN_VALUE);
      int s = x.formed(0, 6, 0);
      due("-1", x.by(s, 6, 0), 6);
      due("least long", x.by(s, 6, 1), BigInteger.valueOf(Long.MIN_VALUE).mod(BigInteger.valueOf(7)).intValue());
      listOf(x, 0, 7, -7);
      int nothing = x.formed(0, 1, 0);
      due("7", x.by(nothing, 1, 0), 0);
      due("-7", x.by(nothing, 1, 1), 0);
    });
    sentence(17, words, "-5: not FORMED; NOTHING is, by 0", () -> {
      DoubleRootSums x = new DoubleRootSums();
      int s = made(x, 0, 1, 1, 5, 2, 1), nothing = made(x, 0, 0, 4, 0, 7, 0, 12, 0);
      due("at 1", x.by(s, 1, 0), 1);
      for (int y = 2; y < 7; y++) due("at " + y, x.by(s, y, 0), NO_ONE);
      for (int y = 1; y < 7; y++) for (int i = 0; i < 2; i++) due("NOTHING", x.by(nothing, y, i), 0);
    });
    sentence(17, words, "i below 0", () -> refused(BoundaryTests::rich, NONE, x -> x.by(0, 1, -1), x -> x.by(0, 1, MIN)));
    sentence(17, words, "i beyond the last RELATION", () -> {
      refused(BoundaryTests::rich, NONE, x -> x.by(0, 1, 1), x -> x.by(0, 1, MAX));
      DoubleRootSums x = new DoubleRootSums();
      int s = made(x, 7, 0, 8, 0, 9, 0, 10, 0, 11, 0, 12, 0);
      due("the last", x.by(s, 1, 3), 0);
      due("behind it", x.by(s, 1, 4), NONE);
      due("behind it", x.by(s, 1, 5), NONE);
    });
    sentence(17, words, "no RELATION of two EXPONENTS, also of NOTHING", () -> {
      refused(BoundaryTests::rich, NONE, x -> x.by(1, 1, 0));
      DoubleRootSums x = new DoubleRootSums();
      due("NOTHING", x.by(made(x, 0, 0, 1, 0), 1, 0), NONE);
    });
    sentence(17, words, "x 0 or below", () -> refused(BoundaryTests::rich, BAD, x -> x.by(0, 0, 0), x -> x.by(0, -1, 0), x -> x.by(0, MIN, 0)));
    sentence(17, words, "x p or beyond", () -> refused(BoundaryTests::rich, BAD, x -> x.by(0, 11, 0), x -> x.by(0, MAX, 0)));
    sentence(17, words, "no SUM", () -> refused(BoundaryTests::rich, NONE, x -> x.by(-1, 1, 0), x -> x.by(2, 1, 0), x -> x.by(6, 1, 0), x -> x.by(MIN, 1, 0),
        x -> x.by(MAX, 1, 0)));
    sentence(17, "the first that a call's words name", "NONE ahead of BAD", () ->
        refused(BoundaryTests::rich, NONE, x -> x.by(2, 0, 0), x -> x.by(0, 0, 1), x -> x.by(0, 11, -1)));
    sentence(17, "what is asked changes nothing", "BY", () -> changesNothing(BoundaryTests::rich, x -> x.by(0, 1, 0), x -> x.by(0, 10, 0)));
  }

  static void reasonsDue(DoubleRootSums x, int... pairs) {
    due("count(7)", x.count(7), pairs.length / 2);
    for (int i = 0; i < pairs.length; i++) due("reason(" + i / 2 + ", " + i % 2 + ")", x.reason(i / 2, i % 2), pairs[i]);
    for (int i = pairs.length / 2; i < 5; i++) due("reason(" + i + ", 0)", x.reason(i, 0), NONE);
  }

  /** SUMS MODULO 5: (X - 1)^2; (X - 1)(X - 2); X^5 - 1, which is (X - 1)^5 and not FORMED. */
  static DoubleRootSums triable() {
    DoubleRootSums x = fresh(0);
    made(x, 0, 1, 1, 3, 2, 1);
    made(x, 0, 2, 1, 2, 2, 1);
    made(x, 0, 4, 5, 1);
    return x;
  }

  static void promise18() {
    String words = "TRIAL that FAILS. NONE: sum; BAD: x.";
    sentence(18, "The first that doesn't hold FAILS (those behind it aren't made).", "each TRIAL, the first alone", () -> {
      DoubleRootSums x = triable();
      due("VALUE, SLOPE, RESULTANT and FORM don't hold", x.tried(1, 3), 1);
      reasonsDue(x, 10, 1, 1, 2);
      due("SLOPE, RESULTANT, FORM", x.tried(1, 1), 2);
      reasonsDue(x, 10, 1, 2, 4, 6, 0);
      due("FORM alone", x.tried(2, 1), 4);
      reasonsDue(x, 10, 2, 4, 2, 7, 1);
      due("all hold", x.tried(0, 1), 0);
      reasonsDue(x);
    });
    sentence(18, "1 its VALUE at x is 0", "x 1 and p less 1", () -> {
      DoubleRootSums x = fresh(8);
      int s = made(x, 0, 1, 1, 2, 2, 1);
      due("(X + 1)^2 at 30", x.tried(s, 30), 0);
      due("(X + 1)^2 at 1", x.tried(s, 1), 1);
      reasonsDue(x, 10, 0, 1, 4);
    });
    sentence(18, words, "x 0 or below", () -> refused(BoundaryTests::rich, BAD, x -> x.tried(0, 0), x -> x.tried(0, -1), x -> x.tried(1, MIN)));
    sentence(18, words, "x p or beyond", () -> refused(BoundaryTests::rich, BAD, x -> x.tried(0, 11), x -> x.tried(1, 31), x -> x.tried(1, MAX)));
    sentence(18, words, "no SUM, also with a bad x", () -> refused(BoundaryTests::rich, NONE, x -> x.tried(-1, 1), x -> x.tried(2, 1), x -> x.tried(6, 1),
        x -> x.tried(2, 0), x -> x.tried(MIN, 1), x -> x.tried(MAX, 31)));
    sentence(18, "what is asked changes nothing but THE PAPER and FAILURES", "FAILURES alone", () -> changesNothing(() -> {
      DoubleRootSums x = rich();
      x.tried(0, 1);
      return x;
    }, x -> x.tried(1, 3), x -> x.tried(0, 2), x -> x.tried(0, 1)));
    sentence(18, "By a SUM that is NOTHING all x are ROOTS, DOUBLE, too; it is FORMED at each x.", "all TRIALS hold", () -> {
      DoubleRootSums x = new DoubleRootSums();
      int two = made(x, 0, 0, 1, 0), three = made(x, 0, 7, 6, 0, 12, 14);
      for (int y = 1; y < 7; y++) {
        due("of two", x.tried(two, y), 0);
        due("of three", x.tried(three, y), 0);
      }
      reasonsDue(x);
    });
  }

  static void promise19() {
    String words = "its kind (what 0), its number (1). NONE: there is none such, what.";
    sentence(19, words, "none at first", () -> reasonsDue(new DoubleRootSums()));
    sentence(19, "(none, if all held)", "none behind a TRIED that held", () -> {
      DoubleRootSums x = triable();
      x.tried(1, 1);
      due("count(7)", x.count(7), 3);
      x.tried(0, 1);
      reasonsDue(x);
    });
    sentence(19, words, "i below 0", () -> refused(BoundaryTests::rich, NONE, x -> x.reason(-1, 0), x -> x.reason(-1, 1), x -> x.reason(MIN, 0)));
    sentence(19, words, "i beyond the last", () -> refused(BoundaryTests::rich, NONE, x -> x.reason(3, 0), x -> x.reason(3, 1), x -> x.reason(4, 0),
        x -> x.reason(MAX, 1)));
    sentence(19, "kind 10, with the number of the SUM", "0 and 5", () -> {
      DoubleRootSums x = full();
      x.number(0, 1, 2);
      x.tried(0, 1);
      reasonsDue(x, 10, 0, 1, 4);
      x.turn(5, 0, 0);
      x.number(5, 4, 2);
      x.tried(5, 1);
      reasonsDue(x, 10, 5, 1, 2);
    });
    sentence(19, "others have no cause", "two FAILURES of TRIAL 1", () -> {
      DoubleRootSums x = triable();
      x.tried(1, 1);
      x.tried(1, 3);
      reasonsDue(x, 10, 1, 1, 2);
      due("reason(2, 1)", x.reason(2, 1), NONE);
    });
    sentence(19, words, "what below 0", () -> refused(BoundaryTests::rich, NONE, x -> x.reason(0, -1), x -> x.reason(2, MIN)));
    sentence(19, words, "what beyond 1", () -> refused(BoundaryTests::rich, NONE, x -> x.reason(0, 2), x -> x.reason(2, MAX)));
    sentence(19, "the cause of kind 2: kind 6, with how many DOUBLE roots there are", "none; some, one of them p less 1", () -> {
      DoubleRootSums x = new DoubleRootSums();
      int s = made(x, 0, 2, 1, 4, 2, 1);
      // (X - 1)(X - 2), then by (X + 1)^2
      x.tried(s, 1);
      reasonsDue(x, 10, 0, 2, 6, 6, 0);
      s = x.times(x.times(s, 6), 6);
      x.tried(s, 2);
      reasonsDue(x, 10, s, 2, 9 % 7, 6, 1);
    });
    sentence(19, "of kind 4: kind 7, with how many ROOTS there are", "one, two", () -> {
      DoubleRootSums x = triable();
      x.tried(2, 1);
      reasonsDue(x, 10, 2, 4, 2, 7, 1);
      int s = made(x, 2, 4, 12, 1);
      x.tried(s, 4);
      reasonsDue(x, 10, s, 4, 2, 7, 2);
    });
    sentence(19, "FAILURES of the latest SUM that was TRIED", "a refused one isn't; they stay as they were found", () -> {
      DoubleRootSums x = triable();
      x.tried(1, 3);
      due("refused", x.tried(1, 0), BAD);
      due("refused", x.tried(3, 1), NONE);
      x.number(1, 0, 0);
      x.prime(4);
      reasonsDue(x, 10, 1, 1, 2);
    });
    sentence(19, "what is asked changes nothing", "FAILURES", () -> changesNothing(BoundaryTests::rich, x -> x.reason(0, 0), x -> x.reason(2, 1)));
  }

  /** Six SUPPORTS, none of them like SUM 0's turned about (0, 2, 3), nor like SUM 0 by X (1, 2, 4). */
  static DoubleRootSums supportsFull() {
    DoubleRootSums x = new DoubleRootSums();
    x.support(bits(0, 1, 3));
    x.support(bits(0, 1, 2));
    x.support(bits(1, 2));
    x.support(bits(1, 2, 3));
    x.support(bits(0, 12));
    x.support(bits(0, 1, 3));
    x.sum(0, 0, 0);
    x.number(0, 0, 3);
    x.number(0, 1, 4);
    x.number(0, 3, 5);
    x.sum(1, 0, 0);
    x.number(1, 0, 3);
    x.number(1, 2, 5);
    return x;
  }

  /** Six SUMS, a SUPPORT alone (not like itself turned about): room for more SUPPORTS. */
  static DoubleRootSums sumsFull() {
    DoubleRootSums x = new DoubleRootSums();
    x.support(bits(0, 1, 3));
    for (int i = 0; i < 6; i++) x.sum(0, 0, 0);
    x.number(0, 0, 3);
    x.number(0, 1, 4);
    x.number(0, 3, 5);
    return x;
  }

  static void promise20() {
    String words = "TURNED: the number of the new SUM. NONE; FULL: SUMS, or SUPPORTS if one would come.";
    sentence(20, words, "no SUM", () -> {
      refused(BoundaryTests::rich, NONE, x -> x.turned(-1), x -> x.turned(2), x -> x.turned(6), x -> x.turned(MIN), x -> x.turned(MAX));
      refused(BoundaryTests::full, NONE, x -> x.turned(6), x -> x.turned(-1));
    });
    sentence(20, words, "FULL: SUMS; no SUPPORT comes either", () -> {
      refused(BoundaryTests::sumsFull, FULL, x -> x.turned(0), x -> x.turned(5));
      DoubleRootSums x = sumsFull();
      x.turned(0);
      due("count(1)", x.count(1), 1);
    });
    sentence(20, words, "FULL: SUPPORTS if one would come; no SUM comes either", () -> {
      refused(BoundaryTests::supportsFull, FULL, x -> x.turned(0));
      DoubleRootSums x = supportsFull();
      x.turned(0);
      due("count(2)", x.count(2), 2);
    });
    sentence(20, words, "SUPPORTS are full, but one is like it", () -> {
      DoubleRootSums x = supportsFull();
      due("turned(1)", x.turned(1), 2);
      due("support", x.ofSum(2, 0), 1);
      due("count(1)", x.count(1), 6);
      due("at 0", x.at(2, 0, 0), 5);
      due("at 2", x.at(2, 2, 0), 3);
    });
    sentence(20, words, "SUPPORTS are full, but one is like it, whichever of the six", () -> {
      for (int like = 0; like < 6; like++) {
        DoubleRootSums x = new DoubleRootSums();
        for (int i = 0; i < 6; i++) x.support(i == like ? bits(2, 3, 5) : i == (like + 1) % 6 ? bits(2, 4, 5) : bits(8, 9 + i % 4));
        x.sum((like + 1) % 6, 0, 0);
        due("turned(0)", x.turned(0), 1);
        due("support", x.ofSum(1, 0), like);
        due("count(1)", x.count(1), 6);
      }
    });
    sentence(20, words, "the sixth SUM has room, the sixth SUPPORT, too", () -> {
      DoubleRootSums x = new DoubleRootSums();
      for (int i = 0; i < 5; i++) x.support(bits(0, 1, 3));
      for (int i = 0; i < 5; i++) x.sum(0, 0, 0);
      due("turned(0)", x.turned(0), 5);
      due("count(1)", x.count(1), 6);
      due("support", x.ofSum(5, 0), 5);
      due("exponents", x.ofSupport(5, 0), bits(0, 2, 3));
      due("turned(5)", x.turned(5), FULL);
    });
    sentence(20, "A SUPPORT that is needed is the first one that is like it; if there is none, it comes, too.", "the first of three, one that comes", () -> {
      DoubleRootSums x = new DoubleRootSums();
      int[] supports = {bits(0, 1, 3), bits(0, 2, 3), bits(0, 2, 3), bits(0, 2, 3)};
      for (int s : supports) x.support(s);
      x.sum(0, 0, 0);
      x.sum(3, 0, 0);
      due("turned(0)", x.turned(0), 2);
      due("the first", x.ofSum(2, 0), 1);
      due("turned(1)", x.turned(1), 3);
      due("the first", x.ofSum(3, 0), 0);
      due("count(1)", x.count(1), 4);
      x.support(bits(1, 2, 12));
      x.sum(4, 0, 0);
      due("turned(4)", x.turned(4), 5);
      due("one comes", x.ofSum(5, 0), 5);
      due("exponents", x.ofSupport(5, 0), bits(1, 11, 12));
    });
    sentence(20, "that at e being the NUMBER at (the least EXPONENT plus the greatest, less e)", "0 and 12; 11 and 12; a SUM that is its own", () -> {
      DoubleRootSums x = fresh(8);
      int wide = made(x, 0, 3, 12, 4), high = made(x, 11, 5, 12, 6), odd = made(x, 2, 7, 4, 8, 9, 9);
      int s = x.turned(wide), t = x.turned(high), u = x.turned(odd);
      due("at 0", x.at(s, 0, 0), 4);
      due("at 12", x.at(s, 12, 0), 3);
      due("at 11", x.at(t, 11, 0), 6);
      due("at 12", x.at(t, 12, 0), 5);
      due("at 2", x.at(u, 2, 0), 9);
      due("at 7", x.at(u, 7, 0), 8);
      due("at 9", x.at(u, 9, 0), 7);
    });
    sentence(20, "TURNED: a SUM of KIND 0 (FIGURE 0) more, with NUMBERS as TOLD", "MODULO p, of another KIND; the SUM itself stays", () -> {
      DoubleRootSums x = new DoubleRootSums();
      int s = made(x, 0, 99, 1, 99, 2, 99);
      x.turn(s, 1, 9);
      int t = x.turned(s);
      due("at 0", x.at(t, 0, 0), 1);
      due("at 1", x.at(t, 1, 0), 6);
      due("at 2", x.at(t, 2, 0), 1);
      due("kind", x.ofSum(t, 1), 0);
      due("figure", x.ofSum(t, 2), 0);
      due("kind of the first", x.ofSum(s, 1), 1);
      due("told of the first", x.at(s, 1, 0), 99);
      x.turn(s, 4, 0);
      due("NUMBER 0 is TOLD 0", x.at(x.turned(s), 0, 0), 0);
    });
  }

  static void promise21() {
    String words = "TIMES: the number of the new SUM. NONE: sum; BAD: x; STATE: fewer than 2 or more than 6 EXPONENTS, one above 12; FULL likewise.";
    sentence(21, words, "no SUM, also with a bad x", () -> refused(BoundaryTests::rich, NONE, x -> x.times(-1, 1), x -> x.times(2, 1), x -> x.times(6, 1),
        x -> x.times(2, -1), x -> x.times(MIN, 1), x -> x.times(MAX, 11)));
    sentence(21, words, "x below 0", () -> refused(BoundaryTests::rich, BAD, x -> x.times(0, -1), x -> x.times(0, MIN)));
    sentence(21, words, "x p or beyond", () -> refused(BoundaryTests::rich, BAD, x -> x.times(0, 11), x -> x.times(0, 12), x -> x.times(0, MAX)));
    sentence(21, "TIMES x (0 .. p less 1)", "0 and p less 1, by each PRIME", () -> {
      for (int k = 0; k < 9; k++) {
        DoubleRootSums x = fresh(k);
        int s = made(x, 0, 1, 2, 2);
        int zero = x.times(s, 0), last = x.times(s, PRIMES[k] - 1);
        due("by X", x.ofSupport(x.ofSum(zero, 0), 0), bits(1, 3));
        due("by X at 1", x.at(zero, 1, 0), 1);
        due("by X at 3", x.at(zero, 3, 0), 2);
        due("by X + 1", x.ofSupport(x.ofSum(last, 0), 0), bits(0, 1, 2, 3));
        int[] want = {1, 1, 2, 2};
        for (int e = 0; e < 4; e++) due("by X + 1 at " + e, x.at(last, e, 0), want[e]);
      }
    });
    sentence(21, "times() of NOTHING: STATE.", "by each x, of two EXPONENTS and of six", () -> {
      DoubleRootSums x = new DoubleRootSums();
      made(x, 0, 0, 12, 0);
      made(x, 0, 7, 1, 0, 2, 14, 3, 0, 4, 0, 5, 98);
      for (int y = 0; y < 7; y++) for (int s = 0; s < 2; s++) due("times(" + s + ", " + y + ")", x.times(s, y), STATE);
      due("count(2)", x.count(2), 2);
      due("count(1)", x.count(1), 2);
    });
    State states = () -> {
      DoubleRootSums x = fresh(8);
      made(x, 0, 5, 1, 0, 2, 31);
      made(x, 0, 1, 1, 2, 2, 4, 3, 8, 4, 16, 5, 1);
      made(x, 0, 1, 12, 1);
      made(x, 1, 1, 3, 1, 5, 1, 7, 1);
      return x;
    };
    sentence(21, words, "STATE: fewer than 2, one", () -> refused(states, STATE, x -> x.times(0, 0)));
    sentence(21, words, "STATE: more than 6, seven and eight", () -> refused(states, STATE, x -> x.times(1, 1), x -> x.times(3, 1), x -> x.times(3, 30)));
    sentence(21, words, "STATE: one above 12", () -> refused(states, STATE, x -> x.times(2, 1), x -> x.times(2, 0), x -> x.times(2, 30)));
    sentence(21, words, "two and six are neither, 12 isn't above", () -> {
      DoubleRootSums x = fresh(8);
      due("two", x.times(made(x, 0, 5, 1, 0, 2, 31), 7), 1);
      due("two", x.ofSupport(x.ofSum(1, 0), 0), bits(0, 1));
      due("six", x.times(made(x, 0, 1, 1, 1, 2, 4, 3, 8, 4, 16, 5, 1), 1), 3);
      due("six", x.ofSupport(x.ofSum(3, 0), 0), bits(0, 2, 3, 4, 5, 6));
      DoubleRootSums y = fresh(8);
      due("12", y.times(made(y, 0, 1, 11, 1), 0), 1);
      due("12", y.ofSupport(y.ofSum(1, 0), 0), bits(1, 12));
      due("12 of five", y.times(made(y, 6, 1, 7, 1, 8, 1, 10, 1, 11, 1), 1), 3);
      due("12 of five", y.ofSupport(y.ofSum(3, 0), 0), bits(6, 9, 10, 12));
    });
    sentence(21, "its EXPONENTS those at which there is a NUMBER that isn't 0", "a NUMBER 0 at 12 is none above; what comes to 0 is none", () -> {
      DoubleRootSums x = fresh(8);
      due("0 at 12", x.times(made(x, 0, 1, 12, 62), 1), 1);
      due("0 at 12", x.ofSupport(x.ofSum(1, 0), 0), bits(0, 1));
      int s = made(x, 0, 1, 1, 1, 2, 1, 3, 1, 4, 1, 5, 1);
      due("X^6 - 1", x.times(s, 1), 3);
      due("X^6 - 1", x.ofSupport(x.ofSum(3, 0), 0), bits(0, 6));
      due("at 0", x.at(3, 0, 0), 30);
      due("at 6", x.at(3, 6, 0), 1);
    });
    sentence(21, words, "FULL: SUMS; no SUPPORT comes either", () -> refused(BoundaryTests::sumsFull, FULL, x -> x.times(0, 0), x -> x.times(0, 6)));
    sentence(21, words, "FULL: SUPPORTS if one would come; no SUM comes either", () -> refused(BoundaryTests::supportsFull, FULL, x -> x.times(0, 0), x -> x.times(0, 1)));
    sentence(21, words, "SUPPORTS are full, but one is like it: the first", () -> {
      DoubleRootSums x = supportsFull();
      x.sum(2, 0, 0);
      x.number(2, 1, 6);
      x.number(2, 2, 1);
      due("(X^2 - X) by X - 1", x.times(2, 1), 3);
      due("support", x.ofSum(3, 0), 3);
      x.number(1, 2, 0);
      x.number(1, 1, 3);
      // 3 + 3X by X - 1: 3X^2 - 3, none is like it
      due("none like it", x.times(1, 1), FULL);
      x.number(1, 1, 4);
      due("3 + 4X by X - 1", x.times(1, 1), 4);
      due("support", x.ofSum(4, 0), 1);
    });
    sentence(21, words, "SUPPORTS are full, but one is like it, whichever of the six", () -> {
      for (int like = 0; like < 6; like++) {
        DoubleRootSums x = new DoubleRootSums();
        for (int i = 0; i < 6; i++) x.support(i == like ? bits(3, 6) : i == (like + 1) % 6 ? bits(2, 5) : bits(8, 9 + i % 4));
        x.sum((like + 1) % 6, 0, 0);
        x.number(0, 2, 1);
        x.number(0, 5, 1);
        due("times(0, 0)", x.times(0, 0), 1);
        due("support", x.ofSum(1, 0), like);
        due("count(1)", x.count(1), 6);
      }
    });
    sentence(21, "the first that a call's words name", "BAD ahead of STATE ahead of FULL", () -> {
      refused(states, BAD, x -> x.times(2, 31), x -> x.times(0, -1));
      State full = () -> {
        DoubleRootSums x = states.make();
        x.sum(0, 0, 0);
        x.sum(0, 0, 0);
        return x;
      };
      refused(full, STATE, x -> x.times(0, 0), x -> x.times(1, 1), x -> x.times(2, 1));
      refused(full, FULL, x -> x.times(0, 1));
      refused(BoundaryTests::full, BAD, x -> x.times(0, 7));
    });
    sentence(21, "TIMES x (0 .. p less 1): a SUM of KIND 0 (FIGURE 0) more", "of another KIND; the sixth SUM and SUPPORT have room", () -> {
      DoubleRootSums x = new DoubleRootSums();
      for (int i = 0; i < 5; i++) x.support(bits(0, 1));
      for (int i = 0; i < 5; i++) x.sum(0, 5, 9);
      x.number(0, 0, 9);
      x.number(0, 1, 9);
      // SLOPED: 9X
      due("times", x.times(0, 1), 5);
      due("exponents", x.ofSupport(5, 0), bits(1, 2));
      due("at 1", x.at(5, 1, 0), 5);
      due("at 2", x.at(5, 2, 0), 2);
      due("kind", x.ofSum(5, 1), 0);
      due("figure", x.ofSum(5, 2), 0);
    });
  }

  static void promise22() {
    String words = "ALL: how many (what 0), the first (1; -5). NONE: support, what; STATE: not three EXPONENTS, p above 13.";
    sentence(22, words, "p 13 isn't above, 17 is", () -> {
      DoubleRootSums x = new DoubleRootSums();
      x.support(bits(0, 1, 2));
      int[] first = {10104, 10102, 10103, 10110};
      for (int k = 0; k < 4; k++) {
        x.prime(k);
        due("how many by " + PRIMES[k], x.all(0, 0), (PRIMES[k] - 1) * (PRIMES[k] - 1));
        due("the first by " + PRIMES[k], x.all(0, 1), first[k]);
      }
      for (int k = 4; k < 9; k++) {
        x.prime(k);
        for (int what = 0; what < 2; what++) due("all by " + PRIMES[k], x.all(0, what), STATE);
      }
    });
    sentence(22, words, "STATE: p above 13", () -> refused(() -> {
      DoubleRootSums x = rich();
      x.prime(4);
      return x;
    }, STATE, x -> x.all(0, 0), x -> x.all(0, 1), x -> x.all(1, 0)));
    sentence(22, words, "STATE: not three EXPONENTS, two, four, six", () -> {
      refused(BoundaryTests::rich, STATE, x -> x.all(1, 0), x -> x.all(1, 1));
      DoubleRootSums x = fresh(0);
      x.support(bits(0, 1));
      x.support(bits(0, 1, 2, 3));
      x.support(bits(0, 1, 2, 3, 4, 5));
      for (int s = 0; s < 3; s++) for (int what = 0; what < 2; what++) due("all(" + s + ", " + what + ")", x.all(s, what), STATE);
    });
    sentence(22, words, "what below 0", () -> refused(BoundaryTests::rich, NONE, x -> x.all(0, -1), x -> x.all(0, MIN)));
    sentence(22, words, "what beyond 1", () -> refused(BoundaryTests::rich, NONE, x -> x.all(0, 2), x -> x.all(0, MAX)));
    sentence(22, words, "no SUPPORT", () -> refused(BoundaryTests::rich, NONE, x -> x.all(-1, 0), x -> x.all(2, 0), x -> x.all(6, 1), x -> x.all(MIN, 0),
        x -> x.all(MAX, 0)));
    sentence(22, "the first that a call's words name", "NONE ahead of STATE", () -> refused(BoundaryTests::rich, NONE, x -> x.all(1, 2), x -> x.all(1, -1)));
    sentence(22, "10000, 100 and 1 times these, together; -5 none", "none", () -> {
      DoubleRootSums x = new DoubleRootSums();
      // X^7 has no slope, X^1 has one that isn't 0.
      x.support(bits(0, 1, 7));
      due("how many", x.all(0, 0), 0);
      due("the first", x.all(0, 1), NO_ONE);
    });
    sentence(22, "of all ways to have NUMBERS 1 .. p less 1 at each, how many have a DOUBLE root", "a DOUBLE root by a NUMBER 0 alone is none", () -> {
      DoubleRootSums x = fresh(0);
      // Two EXPONENTS are alike MODULO 5: the NUMBER at the third would have to be 0.
      int[] supports = {bits(0, 1, 6), bits(0, 5, 6), bits(0, 1, 5)};
      for (int s = 0; s < 3; s++) {
        x.support(supports[s]);
        due("how many", x.all(s, 0), 0);
        due("the first", x.all(s, 1), NO_ONE);
      }
    });
    sentence(22, "of all ways to have NUMBERS 1 .. p less 1 at each, how many have a DOUBLE root", "each way once", () -> {
      DoubleRootSums x = fresh(0);
      x.support(bits(0, 5, 10));
      int many = 0, first = NO_ONE;
      for (int a = 1; a < 5; a++)
        for (int b = 1; b < 5; b++)
          for (int c = 1; c < 5; c++)
            if (hasDouble(new int[] {a, b, c}, new int[] {0, 5, 10}, 5) && many++ == 0) first = 10000 * a + 100 * b + c;
      due("how many", x.all(0, 0), many);
      due("the first", x.all(0, 1), first);
    });
    sentence(22, "(by the NUMBER at the least EXPONENT, then at the next, ..)", "not by the next with 1", () -> {
      DoubleRootSums x = fresh(0);
      x.support(bits(0, 2, 4));
      // 1 + bY + cY^2 is a square of b 1 by c 4, Y 3, which is no square; of b 2 by c 1, Y 4
      due("the first", x.all(0, 1), 10201);
    });
    sentence(22, "what is asked changes nothing", "ALL", () -> changesNothing(BoundaryTests::rich, x -> x.all(0, 0), x -> x.all(0, 1)));
  }

  static int threeOf(int n, int k, long a, long b, long c, int p) {
    BigInteger one = BigInteger.valueOf(n).pow(n).multiply(BigInteger.valueOf(c).pow(k)).multiply(BigInteger.valueOf(a).pow(n - k));
    BigInteger other = BigInteger.valueOf(n - k).pow(n - k).multiply(BigInteger.valueOf(k).pow(k)).multiply(BigInteger.valueOf(b).pow(n));
    return (n % 2 == 0 ? one.subtract(other) : one.add(other)).mod(BigInteger.valueOf(p)).intValue();
  }

  static void promise23() {
    sentence(23, "n to the n times C to the k times A to the (n less k), plus (less, if n is even)", "n 2 to 12, k 1 to n less 1, by each PRIME", () -> {
      for (int k = 0; k < 9; k++)
        for (int last = 2; last <= 12; last++)
          for (int middle : new int[] {1, last / 2, last - 1}) {
            DoubleRootSums x = fresh(k);
            if (middle < 1) continue;
            int s = made(x, 0, 2, middle, 3, last, 97);
            int step = BigInteger.valueOf(middle).gcd(BigInteger.valueOf(last)).intValue(), p = PRIMES[k];
            due("0, " + middle + ", " + last + " by " + p, x.three(s), threeOf(last / step, middle / step, 2, 3, 97 % p, p));
          }
    });
    sentence(23, "with n AREA, k (the second less the first) by STEP, and A, B, C the NUMBERS, the least EXPONENT first", "not from 0 on, with a STEP, of a KIND", () -> {
      DoubleRootSums x = fresh(8);
      int s = made(x, 3, 4, 6, 5, 12, 6);
      due("three", x.three(s), threeOf(3, 1, 4, 5, 6, 31));
      x.turn(s, 1, 0);
      due("SIGNED", x.three(s), threeOf(3, 1, 27, 5, 6, 31));
      x.turn(s, 4, 0);
      due("LOW", x.three(s), threeOf(3, 1, 4, 5, 0, 31));
    });
    sentence(23, "n to the n times C to the k", "numbers that are 0", () -> {
      DoubleRootSums x = new DoubleRootSums();
      int s = made(x, 0, 0, 1, 0, 3, 0);
      due("all", x.three(s), 0);
      x.number(s, 1, 2);
      due("A and C", x.three(s), threeOf(3, 1, 0, 2, 0, 7));
      x.number(s, 0, 3);
      x.number(s, 3, 5);
      x.number(s, 1, 7);
      due("B", x.three(s), threeOf(3, 1, 3, 0, 5, 7));
    });
    String words = "THREE. NONE; STATE: not three EXPONENTS.";
    sentence(23, words, "STATE: two, four, six", () -> {
      refused(BoundaryTests::rich, STATE, x -> x.three(1));
      DoubleRootSums x = new DoubleRootSums();
      due("two", x.three(made(x, 0, 1, 1, 1)), STATE);
      due("four", x.three(made(x, 0, 1, 1, 1, 2, 1, 3, 1)), STATE);
      due("six", x.three(made(x, 0, 1, 1, 1, 2, 1, 3, 1, 4, 1, 5, 1)), STATE);
      due("four, one of them 0", x.three(made(x, 0, 1, 1, 1, 2, 1, 3, 0)), STATE);
    });
    sentence(23, words, "no SUM", () -> refused(BoundaryTests::rich, NONE, x -> x.three(-1), x -> x.three(2), x -> x.three(6), x -> x.three(MIN), x -> x.three(MAX)));
    sentence(23, "what is asked changes nothing", "THREE", () -> changesNothing(BoundaryTests::rich, x -> x.three(0)));
  }

  static void chanceDue(DoubleRootSums x, int sum, int[] numbers, int[] exponents, int p, int t) {
    long above = 0, below = 1;
    for (int i = 0; i < numbers.length; i++) below *= t;
    for (int stays = 0; stays < 1 << numbers.length; stays++) {
      int[] left = numbers.clone();
      long ways = 1;
      for (int i = 0; i < left.length; i++)
        if ((stays >> i & 1) == 1) ways *= t - 1;
        else left[i] = 0;
      if (hasDouble(left, exponents, p)) above += ways;
    }
    long divisor = BigInteger.valueOf(above).gcd(BigInteger.valueOf(below)).longValue();
    due("chance by " + t + ", above", x.chance(sum, t, 0), above / divisor);
    due("chance by " + t + ", below", x.chance(sum, t, 1), below / divisor);
  }

  static void promise24() {
    sentence(24, "becomes 0, by itself, with odds 1 in t (2 .. 20)", "t 2 and t 20, two EXPONENTS and six", () -> {
      DoubleRootSums x = new DoubleRootSums();
      int[] six = {0, 1, 2, 3, 5, 12}, numbers = {6, 3, 5, 1, 4, 2};
      int s = made(x, 0, 6, 1, 3, 2, 5, 3, 1, 5, 4, 12, 2), two = made(x, 0, 6, 7, 1);
      for (int t : new int[] {2, 3, 19, 20}) {
        chanceDue(x, s, numbers, six, 7, t);
        chanceDue(x, two, new int[] {6, 1}, new int[] {0, 7}, 7, t);
      }
    });
    String words = "CHANCE; part 0 above, 1 below the line. NO: sum, t, part.";
    sentence(24, words, "t below 2", () -> refused(BoundaryTests::rich, NO, x -> x.chance(0, 1, 0), x -> x.chance(0, 0, 1), x -> x.chance(0, -1, 0),
        x -> x.chance(0, MIN, 1)));
    sentence(24, words, "t beyond 20", () -> refused(BoundaryTests::rich, NO, x -> x.chance(0, 21, 0), x -> x.chance(1, 21, 1), x -> x.chance(0, MAX, 1)));
    sentence(24, words, "part below 0", () -> refused(BoundaryTests::rich, NO, x -> x.chance(0, 2, -1), x -> x.chance(0, 2, MIN)));
    sentence(24, words, "part beyond 1", () -> refused(BoundaryTests::rich, NO, x -> x.chance(0, 2, 2), x -> x.chance(0, 2, MAX)));
    sentence(24, words, "no SUM", () -> refused(BoundaryTests::rich, NO, x -> x.chance(-1, 2, 0), x -> x.chance(2, 2, 0), x -> x.chance(6, 2, 1),
        x -> x.chance(MIN, 2, 0), x -> x.chance(MAX, 2, 1)));
    sentence(24, "how likely it has a DOUBLE root then: a fraction in lowest terms", "sure: 1 by 1", () -> {
      DoubleRootSums x = new DoubleRootSums();
      int s = made(x, 0, 7, 12, 0);
      for (int t = 2; t <= 20; t++) for (int part = 0; part < 2; part++) due("chance", x.chance(s, t, part), 1);
    });
    sentence(24, "how likely it has a DOUBLE root then: a fraction in lowest terms", "all 0 alone: 1 by t to the power six, the greatest below the line", () -> {
      DoubleRootSums x = fresh(0);
      int s = made(x, 0, 1, 1, 0, 2, 0, 3, 0, 4, 0, 5, 0);
      due("above: one that isn't 0", x.chance(s, 20, 0), 1);
      due("below: one that isn't 0", x.chance(s, 20, 1), 20);
      int[] e = {0, 1, 2, 3, 4, 5}, n = {1, 1, 1, 1, 1, 1};
      for (int i : e) x.number(s, i, 1);
      chanceDue(x, s, n, e, 5, 20);
    });
    sentence(24, "a fraction in lowest terms (0 by 1)", "it is never 0: all can become 0, and NOTHING has DOUBLE roots", () -> {
      DoubleRootSums x = new DoubleRootSums();
      int s = made(x, 11, 1, 12, 1);
      for (int t = 2; t <= 20; t++) {
        due("above", x.chance(s, t, 0), 1);
        due("below", x.chance(s, t, 1), t * t);
      }
    });
    sentence(24, "each TOLD number of a SUM becomes 0", "of a KIND: the NUMBER does", () -> {
      DoubleRootSums x = new DoubleRootSums();
      int s = made(x, 0, 1, 1, 2, 2, 1);
      // SIGNED: (X - 1)^2
      x.turn(s, 1, 0);
      chanceDue(x, s, new int[] {1, 5, 1}, new int[] {0, 1, 2}, 7, 5);
      x.turn(s, 4, 0);
      chanceDue(x, s, new int[] {1, 2, 0}, new int[] {0, 1, 2}, 7, 5);
    });
    sentence(24, "what is asked changes nothing", "CHANCE", () ->
        changesNothing(BoundaryTests::rich, x -> x.chance(0, 2, 0), x -> x.chance(1, 20, 1), x -> x.chance(0, 20, 1)));
  }

  static void promise25() {
    String words = "What is SEEN comes: how many there are (x -1: none then, 0, whatever v is). BAD: x, v; FULL: 4.";
    sentence(25, "x (0 .. 30), v (0 .. 30) (4 rows at most)", "0 and 30, by each PRIME", () -> {
      for (int k = 0; k < 9; k++) {
        DoubleRootSums x = fresh(k);
        due("see(30, 30)", x.see(30, 30), 1);
        due("see(0, 0)", x.see(0, 0), 2);
        due("see(30, 0)", x.see(30, 0), 3);
        due("see(0, 30)", x.see(0, 30), 4);
        due("count(3)", x.count(3), 4);
      }
    });
    sentence(25, words, "x below -1", () -> refused(BoundaryTests::rich, BAD, x -> x.see(-2, 0), x -> x.see(MIN, 0)));
    sentence(25, words, "x beyond 30", () -> refused(BoundaryTests::rich, BAD, x -> x.see(31, 0), x -> x.see(MAX, 0)));
    sentence(25, words, "v below 0", () -> refused(BoundaryTests::rich, BAD, x -> x.see(0, -1), x -> x.see(0, MIN), x -> x.see(0, -2)));
    sentence(25, words, "v beyond 30", () -> refused(BoundaryTests::rich, BAD, x -> x.see(0, 31), x -> x.see(0, MAX)));
    sentence(25, words, "x -1: none then, whatever v is", () -> {
      for (int v : new int[] {0, 5, -1, 31, MIN, MAX}) {
        DoubleRootSums x = rich();
        due("see(-1, " + v + ")", x.see(-1, v), 0);
        due("count(3)", x.count(3), 0);
        due("all fit", x.fits(0, 1, 0), 11);
        due("anew", x.see(3, 4), 1);
      }
      due("none already", new DoubleRootSums().see(-1, 0), 0);
    });
    sentence(25, words, "x -1 of four", () -> {
      DoubleRootSums x = full();
      due("see(-1, 99)", x.see(-1, 99), 0);
      due("count(3)", x.count(3), 0);
      due("see(1, 1)", x.see(1, 1), 1);
    });
    sentence(25, words, "FULL: 4", () -> refused(BoundaryTests::full, FULL, x -> x.see(0, 0), x -> x.see(30, 30)));
    sentence(25, "the first that a call's words name", "BAD ahead of FULL", () -> refused(BoundaryTests::full, BAD, x -> x.see(31, 0), x -> x.see(0, 31), x -> x.see(-2, 0)));
    sentence(25, "What prime(), number(), turn() changed can be TAKEN BACK", "see() is no step and leaves them", () -> {
      DoubleRootSums x = rich();
      int steps = x.count(6);
      x.see(2, 2);
      due("steps", x.count(6), steps);
      x.see(-1, 0);
      due("steps", x.count(6), steps);
      x.back();
      due("what is SEEN", x.count(3), 0);
    });
  }

  static void promise26() {
    String words = "FITS: how many (what 0), the least (1; -5). NONE: sum, no EXPONENT of it, what.";
    sentence(26, "all numbers FIT.", "without what is SEEN, by each PRIME", () -> {
      for (int k = 0; k < 9; k++) {
        DoubleRootSums x = fresh(k);
        int s = made(x, 0, 3, 12, 5);
        due("how many", x.fits(s, 12, 0), PRIMES[k]);
        due("the least", x.fits(s, 12, 1), 0);
      }
    });
    sentence(26, "the least (-5: none)", "none", () -> {
      DoubleRootSums x = new DoubleRootSums();
      int s = made(x, 0, 3, 1, 5);
      x.see(0, 4);
      due("how many", x.fits(s, 1, 0), 0);
      due("the least", x.fits(s, 1, 1), NO_ONE);
    });
    sentence(26, "the least (-5: none)", "p less 1 alone; 0 alone; all of them", () -> {
      DoubleRootSums x = new DoubleRootSums();
      int s = made(x, 0, 3, 1, 5);
      x.see(0, 6);
      due("how many", x.fits(s, 0, 0), 1);
      due("p less 1", x.fits(s, 0, 1), 6);
      x.see(-1, 0);
      x.see(0, 7);
      due("how many", x.fits(s, 0, 0), 1);
      due("0", x.fits(s, 0, 1), 0);
      x.see(-1, 0);
      x.see(14, 24);
      due("all, at EXPONENT 1", x.fits(s, 1, 0), 7);
      due("0", x.fits(s, 1, 1), 0);
    });
    sentence(26, "VALUE at x MODULO p would be v MODULO p for all SEEN", "x and v of p and more", () -> {
      DoubleRootSums x = fresh(0);
      int s = made(x, 0, 3, 1, 4);
      x.see(27, 29);
      // 3 + 2t = 4 MODULO 5
      due("how many", x.fits(s, 1, 0), 1);
      due("the least", x.fits(s, 1, 1), 3);
      x.see(30, 28);
      due("0, 3: it holds", x.fits(s, 1, 1), 3);
      x.see(25, 29);
      due("0, 4: it doesn't", x.fits(s, 1, 1), NO_ONE);
    });
    sentence(26, "for all SEEN", "the fourth counts, too; those that were don't", () -> {
      DoubleRootSums x = new DoubleRootSums();
      int s = made(x, 0, 3, 1, 4);
      for (int i = 0; i < 3; i++) x.see(1, 5);
      due("three", x.fits(s, 0, 1), 1);
      x.see(1, 6);
      due("four", x.fits(s, 0, 1), NO_ONE);
      x.see(-1, 0);
      x.see(1, 6);
      due("one", x.fits(s, 0, 1), 2);
    });
    sentence(26, "were they TOLD there", "by the KIND: LOW tells nothing at the greatest", () -> {
      DoubleRootSums x = new DoubleRootSums();
      int s = made(x, 0, 3, 1, 4);
      x.see(1, 3);
      due("SUM", x.fits(s, 1, 1), 0);
      due("SUM", x.fits(s, 1, 0), 1);
      x.turn(s, 4, 0);
      due("LOW", x.fits(s, 1, 0), 7);
      x.turn(s, 5, 0);
      due("SLOPED at 0: none", x.fits(s, 0, 0), 0);
      due("SLOPED at 1", x.fits(s, 1, 1), 3);
      x.turn(s, 1, 0);
      due("SIGNED at 1: 3 - t = 3", x.fits(s, 1, 1), 0);
    });
    sentence(26, words, "no EXPONENT", () -> {
      for (int e : new int[] {-1, 3, 12, 13, 32, -31, MIN, MAX}) refused(BoundaryTests::rich, NONE, x -> x.fits(0, e, 0), x -> x.fits(0, e, 1));
    });
    sentence(26, words, "no SUM", () -> refused(BoundaryTests::rich, NONE, x -> x.fits(-1, 0, 0), x -> x.fits(2, 0, 0), x -> x.fits(6, 0, 0), x -> x.fits(MIN, 0, 0),
        x -> x.fits(MAX, 0, 0)));
    sentence(26, words, "what below 0", () -> refused(BoundaryTests::rich, NONE, x -> x.fits(0, 0, -1), x -> x.fits(0, 0, MIN)));
    sentence(26, words, "what beyond 1", () -> refused(BoundaryTests::rich, NONE, x -> x.fits(0, 0, 2), x -> x.fits(0, 0, MAX)));
    sentence(26, "what is asked changes nothing", "FITS: what is TOLD stays", () ->
        changesNothing(BoundaryTests::rich, x -> x.fits(0, 0, 0), x -> x.fits(1, 12, 1), x -> x.fits(0, 1, 1)));
  }

  static void promise27() {
    String words = "LOTS. NONE: sum; BAD: n.";
    sentence(27, "n times (1 .. 40) TOLD is drawn anew", "once and forty times", () -> {
      DoubleRootSums x = fresh(0);
      int s = made(x, 0, 0, 1, 0, 2, 0);
      int[] e = {0, 1, 2};
      int some = 0;
      for (int seed = 0; seed < 60; seed++) {
        int one = lotsOf(e, 5, 1, seed);
        some += one;
        due("lots(0, 1, " + seed + ")", x.lots(s, 1, seed), one);
        due("lots(0, 40, " + seed + ")", x.lots(s, 40, seed), lotsOf(e, 5, 40, seed));
      }
      due("some have one, some don't", some > 0 && some < 60 ? 1 : 0, 1);
    });
    sentence(27, "(an int, wrapping)", "seeds at the ends of ints, below 0", () -> {
      for (int k : new int[] {0, 1, 8}) {
        DoubleRootSums x = fresh(k);
        int s = made(x, 0, 0, 1, 0, 2, 0), six = made(x, 0, 0, 1, 0, 2, 0, 4, 0, 7, 0, 12, 0);
        for (int seed : new int[] {0, 1, -1, MIN, MAX, MIN + 1, 65536, -65536, 1 << 30, -77}) {
          due("lots of three by " + seed, x.lots(s, 40, seed), lotsOf(new int[] {0, 1, 2}, PRIMES[k], 40, seed));
          due("lots of six by " + seed, x.lots(six, 40, seed), lotsOf(new int[] {0, 1, 2, 4, 7, 12}, PRIMES[k], 40, seed));
        }
      }
    });
    sentence(27, "(z without its sign's bit, over 65536, cut) modulo n", "z below 0 as it is drawn", () -> {
      DoubleRootSums x = fresh(8);
      int s = made(x, 3, 0, 9, 0);
      int below = 0;
      for (int seed = 1; seed <= 100; seed++) {
        if (seed * 1103515245 + 12345 < 0) below++;
        due("lots by " + seed, x.lots(s, 40, seed), lotsOf(new int[] {3, 9}, 31, 40, seed));
      }
      due("some are below 0, some aren't", below > 0 && below < 100 ? 1 : 0, 1);
    });
    sentence(27, words, "n below 1", () -> refused(BoundaryTests::rich, BAD, x -> x.lots(0, 0, 5), x -> x.lots(0, -1, 5), x -> x.lots(1, MIN, 5)));
    sentence(27, words, "n beyond 40", () -> refused(BoundaryTests::rich, BAD, x -> x.lots(0, 41, 5), x -> x.lots(1, MAX, 5)));
    sentence(27, words, "no SUM, also with a bad n", () -> refused(BoundaryTests::rich, NONE, x -> x.lots(-1, 1, 5), x -> x.lots(2, 1, 5), x -> x.lots(6, 1, 5),
        x -> x.lots(2, 0, 5), x -> x.lots(MIN, 41, 5), x -> x.lots(MAX, 1, 5)));
    sentence(27, "how many of these have a DOUBLE root (nothing stays)", "TOLD and the seed", () -> {
      changesNothing(BoundaryTests::rich, x -> x.lots(0, 40, 7), x -> x.lots(1, 1, MIN));
      DoubleRootSums x = fresh(0);
      int s = made(x, 0, 0, 1, 0, 2, 0);
      long first = x.lots(s, 40, 12);
      due("again", x.lots(s, 40, 12), first);
    });
    sentence(27, "n times (1 .. 40) TOLD is drawn anew at each EXPONENT", "of a KIND: LOW of two has none by its first, SLOPED", () -> {
      DoubleRootSums x = fresh(0);
      int s = made(x, 1, 0, 2, 0);
      x.turn(s, 4, 0);
      // A number at 1 alone: DOUBLE only if it is 0.
      int zeroes = 0;
      int z = 9;
      for (int i = 0; i < 80; i++) {
        z = z * 1103515245 + 12345;
        if (i % 2 == 0 && (z & MAX) / 65536 % 5 == 0) zeroes++;
      }
      due("LOW", x.lots(s, 40, 9), zeroes);
    });
  }

  static void promise28() {
    String words = "A letter (0 .. 127) comes behind THE TEXT's: how many it has. BAD; FULL.";
    sentence(28, words, "letters 0 and 127", () -> {
      DoubleRootSums x = new DoubleRootSums();
      due("feed(0)", x.feed(0), 1);
      due("feed(127)", x.feed(127), 2);
      due("count(4)", x.count(4), 2);
      due("read", x.read(), -100);
    });
    sentence(28, words, "below 0", () -> refused(BoundaryTests::rich, BAD, x -> x.feed(-1), x -> x.feed(MIN), x -> x.feed('p' - 256)));
    sentence(28, words, "beyond 127", () -> refused(BoundaryTests::rich, BAD, x -> x.feed(128), x -> x.feed(256 + ';'), x -> x.feed(65536 + 'p'), x -> x.feed(MAX)));
    sentence(28, "A set-up is read from THE TEXT (80 letters at most)", "the eightieth has room; it is the FAULT behind 79", () -> {
      DoubleRootSums x = new DoubleRootSums();
      for (int i = 1; i <= 80; i++) due("feed", x.feed(i == 80 ? '1' : i % 8 == 0 ? ';' : i % 8 == 1 ? 'a' : '0' + i % 8), i);
      due("count(4)", x.count(4), 80);
      due("read", x.read(), -179);
    });
    sentence(28, "A set-up is read from THE TEXT (80 letters at most)", "79 that are one: ten CLAUSES of seven", () -> {
      DoubleRootSums x = new DoubleRootSums();
      for (int i = 1; i <= 79; i++) x.feed(i % 8 == 0 ? ';' : i % 8 == 1 ? 'a' : '0' + i % 8);
      due("count(4)", x.count(4), 79);
      due("read: six SUPPORTS, four are refused", x.read(), 6);
    });
    sentence(28, words, "FULL: the eighty-first", () -> refused(BoundaryTests::full, FULL, x -> x.feed('p'), x -> x.feed(0), x -> x.feed(127)));
    sentence(28, "the first that a call's words name", "BAD ahead of FULL", () -> refused(BoundaryTests::full, BAD, x -> x.feed(128), x -> x.feed(-1)));
    sentence(28, "THE TEXT, which is empty then (by a FAULT, too)", "room again behind read()", () -> {
      DoubleRootSums x = full();
      due("FULL", x.feed('p'), FULL);
      due("read", x.read() < 0 ? 1 : 0, 1);
      due("feed", x.feed('p'), 1);
      due("feed", x.feed('4'), 2);
      due("read", x.read(), 1);
      due("PRIME", x.count(0), 17);
    });
  }

  static void faultDue(String text, int place) {
    DoubleRootSums x = rich();
    x.read();
    x.prime(5);
    feedAll(x, text);
    due("read() of " + text, x.read(), -100 - place);
    due("count(4) behind " + text, x.count(4), 0);
    due("none of it done: count(0) behind " + text, x.count(0), 19);
    due("none of it done: count(1) behind " + text, x.count(1), 3);
    due("steps behind " + text, x.count(6), 1);
  }

  static void promise29() {
    String fault = "The FAULT: the place of the first letter with which none goes on so (how many there are, if it ends too early).";
    sentence(29, fault, "an empty TEXT: 0", () -> {
      due("read()", new DoubleRootSums().read(), -100);
      faultDue("", 0);
    });
    sentence(29, fault, "it ends too early", () -> {
      for (String t : new String[] {"p", "a", "a0", "s", "s0", "s00", "n", "n0", "n00", "n000", "p1;", "p1;p", "p1;a0", "a01;s00", "p1;n0b9", "a0123;"})
        faultDue(t, t.length());
    });
    sentence(29, fault, "the first letter", () -> {
      for (String t : new String[] {";", "0", "x", "P1", "b01", "q", "A01", "S000", "N0000", "\0", "\177", "-"}) faultDue(t, 0);
    });
    sentence(29, fault, "a letter behind a CLAUSE that isn't ;", () -> {
      faultDue("p12", 2);
      faultDue("p1p2", 2);
      faultDue("p1,p2", 2);
      faultDue("a01d", 3);
      faultDue("a01p1", 3);
      faultDue("s0000", 4);
      faultDue("n00000", 5);
      faultDue("n0b99;", 6);
      faultDue("p1;;p2", 3);
      faultDue("p1;x", 3);
    });
    sentence(29, fault, "the latest CLAUSE of some: none is done", () -> {
      faultDue("p3;p4;px", 7);
      faultDue("p3;a012;s000;n0011;n001", 23);
    });
    sentence(29, "p and a digit (PRIME)", "/, :, a sign are none; 9 is one, but refused", () -> {
      faultDue("p/", 1);
      faultDue("p:", 1);
      faultDue("pa", 1);
      DoubleRootSums x = new DoubleRootSums();
      due("p0", readOf(x, "p0"), 1);
      due("PRIME", x.count(0), 5);
      due("p8", readOf(x, "p8"), 1);
      due("PRIME", x.count(0), 31);
      due("p9", readOf(x, "p9"), 0);
      due("PRIME", x.count(0), 31);
    });
    sentence(29, "a and 2 to 6 signs (0 .. 9, a, b, c for 10, 11, 12: EXPONENTS; a SUPPORT of all of them, as support())",
        "one is too few, two and six aren't, seven are too many", () -> {
      faultDue("a0", 2);
      faultDue("a0;", 2);
      faultDue("a;", 1);
      faultDue("a0123456", 7);
      faultDue("a012345;a6789abc", 15);
      DoubleRootSums x = new DoubleRootSums();
      due("two", readOf(x, "a09"), 1);
      due("bits", x.ofSupport(0, 0), bits(0, 9));
      due("six", readOf(x, "a789abc"), 1);
      due("bits", x.ofSupport(1, 0), bits(7, 8, 9, 10, 11, 12));
      due("three, four, five", readOf(x, "acba;a0369;a12345"), 3);
      due("bits", x.ofSupport(2, 0), bits(10, 11, 12));
      due("bits", x.ofSupport(3, 0), bits(0, 3, 6, 9));
      due("bits", x.ofSupport(4, 0), bits(1, 2, 3, 4, 5));
    });
    sentence(29, "(0 .. 9, a, b, c for 10, 11, 12: EXPONENTS", "d, `, A, /, : are none", () -> {
      for (char c : new char[] {'d', '`', 'A', 'C', '/', ':', ' ', 0, 127}) {
        faultDue("a" + c + "1", 1);
        faultDue("a1" + c, 2);
        faultDue("a12" + c, 3);
        faultDue("n0" + c + "00", 2);
      }
    });
    sentence(29, "s and three digits (SUPPORT, KIND, FIGURE, as sum())", "two are too few, four too many, a is none", () -> {
      faultDue("s00;", 3);
      faultDue("s0000", 4);
      faultDue("sa00", 1);
      faultDue("s0a0", 2);
      faultDue("s00a", 3);
      DoubleRootSums x = new DoubleRootSums();
      due("done", readOf(x, "a01;a12;s159;s000"), 4);
      due("support", x.ofSum(0, 0), 1);
      due("kind", x.ofSum(0, 1), 5);
      due("figure", x.ofSum(0, 2), 9);
    });
    sentence(29, "n, a digit (the SUM), a sign (the EXPONENT) and two digits (TOLD, as number())", "0 and 99 TOLD, EXPONENTS 0 and 12", () -> {
      faultDue("na000", 1);
      faultDue("n0d00", 2);
      faultDue("n00a0", 3);
      faultDue("n000a", 4);
      faultDue("n000;", 4);
      faultDue("n00000", 5);
      DoubleRootSums x = new DoubleRootSums();
      due("done", readOf(x, "a0c9;s000;n0c99;n0007;n0900"), 5);
      due("at 12", x.at(0, 12, 0), 99);
      due("at 0", x.at(0, 0, 0), 7);
      due("at 9", x.at(0, 9, 0), 0);
      due("done", readOf(x, "n0c00;n0099"), 2);
      due("at 12", x.at(0, 12, 0), 0);
      due("at 0", x.at(0, 0, 0), 99);
    });
    sentence(29, "No blanks.", "ahead, between, behind", () -> {
      faultDue(" p1", 0);
      faultDue("p 1", 1);
      faultDue("p1 ", 2);
      faultDue("p1 ;p2", 2);
      faultDue("p1; p2", 3);
      faultDue("a0 1", 2);
    });
    sentence(29, "CLAUSES, 1 to 10, with ; between", "ten are not too many, one is enough", () -> {
      DoubleRootSums x = new DoubleRootSums();
      due("ten", readOf(x, "p0;p1;p2;p3;p4;p5;p6;p7;p8;p2"), 10);
      due("the latest", x.count(0), 11);
      due("one", readOf(x, "p3"), 1);
      due("PRIME", x.count(0), 13);
    });
    sentence(29, "a seventh sign, and the ; ahead of an eleventh CLAUSE, are the FAULT", "the eleventh whole, begun, or not there", () -> {
      String ten = "p0;p1;p2;p3;p4;p5;p6;p7;p8;p2";
      faultDue(ten + ";p3", 29);
      faultDue(ten + ";p", 29);
      faultDue(ten + ";", 29);
      faultDue(ten + ";x", 29);
      faultDue(ten + "x", 29);
      faultDue("a012345;" + ten.substring(0, 26) + ";p0", 34);
    });
    sentence(29, "a seventh sign, and the ; ahead of an eleventh CLAUSE, are the FAULT", "a seventh that is there already, or the first seven the same", () -> {
      faultDue("a0123450", 7);
      faultDue("a0000000", 7);
      faultDue("a0000001", 7);
      faultDue("p1;a1122334;p2", 10);
    });
    sentence(29, "A sign twice counts once (what has fewer than 2 then is refused)", "refused, or a SUPPORT of fewer", () -> {
      DoubleRootSums x = new DoubleRootSums();
      due("a00", readOf(x, "a00"), 0);
      due("acccccc", readOf(x, "acccccc"), 0);
      due("count(1)", x.count(1), 0);
      due("a00c", readOf(x, "a00c"), 1);
      due("bits", x.ofSupport(0, 0), bits(0, 12));
      due("a111112", readOf(x, "a111112"), 1);
      due("bits", x.ofSupport(1, 0), bits(1, 2));
    });
    sentence(29, "Without it they are done, one behind the other; those that would be refused aren't (nor counted).", "what is refused", () -> {
      DoubleRootSums x = new DoubleRootSums();
      due("no SUPPORT", readOf(x, "s000"), 0);
      due("no SUM", readOf(x, "n0000"), 0);
      due("the SUPPORT comes too late", readOf(x, "s000;a01"), 1);
      due("count(2)", x.count(2), 0);
      due("KIND 6", readOf(x, "s060"), 0);
      due("SUPPORT 1", readOf(x, "s100"), 0);
      due("no EXPONENT", readOf(x, "s000;n0200;n0199;n1100;p9"), 2);
      due("at 1", x.at(0, 1, 0), 99);
      due("PRIME", x.count(0), 7);
    });
    sentence(29, "those that would be refused aren't (nor counted)", "FULL", () -> {
      DoubleRootSums x = new DoubleRootSums();
      due("SUPPORTS", readOf(x, "a01;a12;a23;a34;a45;a56;a67;s600;p0"), 7);
      due("count(1)", x.count(1), 6);
      due("SUMS", readOf(x, "s000;s100;s200;s300;s400;s500;s000;s100;p8"), 7);
      due("count(2)", x.count(2), 6);
      due("PRIME", x.count(0), 31);
    });
    sentence(29, "Without it they are done, one behind the other", "the latest is what stays", () -> {
      DoubleRootSums x = new DoubleRootSums();
      due("done", readOf(x, "p0;a01;s010;n0105;n0106;p3"), 6);
      due("PRIME", x.count(0), 13);
      due("TOLD", x.at(0, 1, 0), 6);
      due("NUMBER", x.at(0, 1, 1), 7);
    });
    sentence(29, "THE TEXT, which is empty then (by a FAULT, too)", "both; the next one isn't mixed with it", () -> {
      DoubleRootSums x = new DoubleRootSums();
      due("read", readOf(x, "p3;a01;s000"), 3);
      due("count(4)", x.count(4), 0);
      due("read", x.read(), -100);
      due("FAULT", readOf(x, "p3;a01;s0"), -109);
      due("count(4)", x.count(4), 0);
      due("FAULT", readOf(x, "00"), -100);
      due("read", readOf(x, "p5"), 1);
      due("count(2)", x.count(2), 1);
    });
    sentence(29, fault, "nothing else is changed", () -> {
      State state = () -> {
        DoubleRootSums x = rich();
        x.read();
        x.prime(4);
        x.number(0, 0, 6);
        return x;
      };
      for (String t : new String[] {"", "p3;a45;s012;n0033;x", "n0033;n0044;", "p", "a0123456"}) changesNothing(state, x -> readOf(x, t));
    });
  }

  static void paperDue(DoubleRootSums x, int sum, String text) {
    due("write of " + text, x.write(sum), text.length());
    due("count(5)", x.count(5), text.length());
    for (int i = 0; i < text.length(); i++) due("paper(" + i + ") of " + text, x.paper(i), text.charAt(i));
    due("paper behind " + text, x.paper(text.length()), NONE);
  }

  static void promise30() {
    sentence(30, "of NOTHING a 0", "all TOLD 0; multiples of p", () -> {
      DoubleRootSums x = new DoubleRootSums();
      paperDue(x, made(x, 0, 0, 12, 0), "0");
      paperDue(x, made(x, 0, 7, 5, 98), "0");
      int s = made(x, 1, 0, 4, 9);
      x.turn(s, 4, 5);
      paperDue(x, s, "0");
    });
    sentence(30, "with + between (like 3x5+x0 with 1, too: 3x5+1x0)", "one alone, 1, at the ends", () -> {
      DoubleRootSums x = new DoubleRootSums();
      paperDue(x, made(x, 0, 1, 5, 3), "3x5+1x0");
      paperDue(x, made(x, 0, 8, 12, 0), "1x0");
      paperDue(x, made(x, 0, 7, 12, 6), "6x12");
      paperDue(x, made(x, 1, 1, 2, 0, 3, 1), "1x3+1x1");
    });
    sentence(30, "WRITTEN: a SUM from the greatest EXPONENT on: of each NUMBER that isn't 0", "the longest there can be", () -> {
      DoubleRootSums x = fresh(8);
      paperDue(x, made(x, 7, 30, 8, 29, 9, 28, 10, 99, 11, 61, 12, 10), "10x12+30x11+6x10+28x9+29x8+30x7");
      paperDue(x, made(x, 7, 30, 8, 30, 9, 30, 10, 30, 11, 30, 12, 30), "30x12+30x11+30x10+30x9+30x8+30x7");
    });
    sentence(30, "THE PAPER becomes a SUM WRITTEN: how many letters. NONE.", "no SUM: THE PAPER stays", () -> {
      refused(BoundaryTests::rich, NONE, x -> x.write(-1), x -> x.write(2), x -> x.write(6), x -> x.write(MIN), x -> x.write(MAX));
      refused(BoundaryTests::full, NONE, x -> x.write(6));
    });
    sentence(30, "THE PAPER holds the latest one", "a shorter one behind a longer one", () -> {
      DoubleRootSums x = new DoubleRootSums();
      paperDue(x, made(x, 0, 1, 5, 3, 11, 4, 12, 5), "5x12+4x11+3x5+1x0");
      paperDue(x, made(x, 3, 2, 4, 0), "2x3");
      due("paper(4)", x.paper(4), NONE);
      due("paper(16)", x.paper(16), NONE);
    });
    sentence(30, "what is asked changes nothing but THE PAPER and FAILURES", "THE PAPER alone", () ->
        changesNothing(BoundaryTests::rich, x -> x.write(1), x -> x.write(0)));
  }

  static void promise31() {
    String words = "Letter i of THE PAPER. NONE.";
    sentence(31, words, "nothing at first", () -> {
      DoubleRootSums x = new DoubleRootSums();
      for (int i : new int[] {-1, 0, 1, MIN, MAX}) due("paper(" + i + ")", x.paper(i), NONE);
    });
    sentence(31, words, "i below 0", () -> refused(BoundaryTests::rich, NONE, x -> x.paper(-1), x -> x.paper(MIN)));
    sentence(31, words, "i behind the last", () -> refused(BoundaryTests::rich, NONE, x -> x.paper(11), x -> x.paper(12), x -> x.paper(80), x -> x.paper(MAX)));
    sentence(31, words, "the first and the last", () -> {
      DoubleRootSums x = rich();
      due("paper(0)", x.paper(0), '1');
      due("paper(10)", x.paper(10), '0');
    });
    sentence(31, "THE PAPER holds the latest one", "it stays as it was WRITTEN", () -> {
      DoubleRootSums x = rich();
      x.number(0, 0, 5);
      x.prime(0);
      x.turn(0, 2, 9);
      due("write of none", x.write(2), NONE);
      due("paper(8)", x.paper(8), '1');
      due("count(5)", x.count(5), 11);
    });
    sentence(31, "what is asked changes nothing", "THE PAPER's letters", () -> changesNothing(BoundaryTests::rich, x -> x.paper(0), x -> x.paper(10)));
  }

  /** A SUPPORT, a SUM, three steps; SUM 0's TIMES and TURNED can be; LIST 0 has a place. */
  static DoubleRootSums stepped() {
    DoubleRootSums x = new DoubleRootSums();
    x.support(bits(0, 1, 2));
    x.sum(0, 0, 0);
    x.image();
    x.list(0, 1);
    x.number(0, 0, 3);
    x.number(0, 2, 1);
    x.turn(0, 1, 1);
    return x;
  }

  /** What prime(), number(), turn() change, of SUMS 0 and 1. */
  static List<String> toldOf(DoubleRootSums x) {
    List<String> l = new ArrayList<>();
    note(l, "count(0)", x.count(0));
    for (int s = 0; s < 2; s++) noteToldOf(l, x, s, x.ofSupport(s, 0));
    return l;
  }

  static void leavesNone(String what, Ask call) {
    DoubleRootSums x = stepped();
    due("steps ahead", x.count(6), 3);
    due(what + " isn't refused", call.of(x) >= 0 ? 1 : 0, 1);
    due("steps behind " + what, x.count(6), 0);
    due("back() behind " + what, x.back(), STATE);
  }

  static void leavesThem(String what, Ask call) {
    DoubleRootSums x = stepped();
    call.of(x);
    due("steps behind " + what, x.count(6), 3);
    due("back()", x.back(), 2);
    due("kind", x.ofSum(0, 1), 0);
    due("back()", x.back(), 1);
    due("told", x.at(0, 2, 0), 0);
    due("back()", x.back(), 0);
    due("told", x.at(0, 0, 0), 0);
  }

  static void promise32() {
    String words = "The latest step is TAKEN BACK: how many can still be. STATE: there is none.";
    sentence(32, words, "none at first", () -> {
      due("back()", new DoubleRootSums().back(), STATE);
      due("count(6)", new DoubleRootSums().count(6), 0);
      refused(() -> {
        DoubleRootSums x = rich();
        x.support(bits(1, 2));
        return x;
      }, STATE, x -> x.back(), x -> x.back());
    });
    sentence(32, words, "none any more", () -> {
      DoubleRootSums x = new DoubleRootSums();
      x.prime(4);
      due("back()", x.back(), 0);
      due("PRIME", x.count(0), 7);
      due("back()", x.back(), STATE);
      due("PRIME", x.count(0), 7);
    });
    sentence(32, "(each that isn't refused counts, also if all stays as it was)", "the same PRIME, TOLD, KIND and FIGURE", () -> {
      DoubleRootSums x = new DoubleRootSums();
      x.support(3);
      x.sum(0, 2, 3);
      x.prime(1);
      due("prime", x.count(6), 1);
      x.number(0, 0, 0);
      due("number", x.count(6), 2);
      x.turn(0, 2, 3);
      due("turn", x.count(6), 3);
      for (int i = 2; i >= 0; i--) due("back()", x.back(), i);
    });
    sentence(32, "(each that isn't refused counts, also if all stays as it was)", "what is refused doesn't", () -> {
      DoubleRootSums x = stepped();
      x.prime(9);
      x.prime(-1);
      x.number(0, 0, 100);
      x.number(0, 3, 1);
      x.turn(0, 6, 0);
      x.turn(0, 0, 10);
      due("count(6)", x.count(6), 3);
      due("back()", x.back(), 2);
      due("kind", x.ofSum(0, 1), 0);
    });
    sentence(32, "the latest first, 8 at most (older ones no more)", "seven, eight, nine, twenty", () -> {
      for (int n : new int[] {7, 8, 9, 20}) {
        DoubleRootSums x = new DoubleRootSums();
        x.support(3);
        x.sum(0, 0, 0);
        for (int i = 1; i <= n; i++) {
          x.number(0, 1, i);
          due("count(6)", x.count(6), Math.min(i, 8));
        }
        for (int i = 1; i <= Math.min(n, 8); i++) {
          due("back()", x.back(), Math.min(n, 8) - i);
          due("told", x.at(0, 1, 0), n - i);
        }
        due("back()", x.back(), STATE);
        due("told", x.at(0, 1, 0), Math.max(0, n - 8));
      }
    });
    sentence(32, "8 at most (older ones no more)", "of all three kinds", () -> {
      DoubleRootSums x = new DoubleRootSums();
      x.support(3);
      x.sum(0, 0, 0);
      for (int i = 0; i < 3; i++) {
        x.prime(2 + i);
        x.number(0, 0, 10 + i);
        x.turn(0, 1 + i, 3 + i);
      }
      due("count(6)", x.count(6), 8);
      int[] primes = {17, 17, 13, 13, 13, 11, 11, 11}, told = {12, 11, 11, 11, 10, 10, 10, 0}, kinds = {24, 24, 24, 13, 13, 13, 0, 0};
      for (int i = 0; i < 8; i++) {
        due("back()", x.back(), 7 - i);
        due("PRIME", x.count(0), primes[i]);
        due("told", x.at(0, 0, 0), told[i]);
        due("KIND and FIGURE", 10 * x.ofSum(0, 1) + x.ofSum(0, 2), kinds[i]);
      }
      due("the first stays done", x.back(), STATE);
      due("PRIME", x.count(0), 11);
    });
    sentence(32, "8 at most (older ones no more)", "at many SUMS and EXPONENTS, as many as one likes", () -> {
      int[] supports = {bits(0, 4, 7), bits(1, 5, 12)};
      for (int n = 8; n <= 17; n++) {
        DoubleRootSums x = new DoubleRootSums();
        for (int s : supports) x.support(s);
        x.sum(0, 0, 0);
        x.sum(1, 0, 0);
        List<List<String>> were = new ArrayList<>();
        for (int i = 0; i < n; i++) {
          were.add(toldOf(x));
          int[] e = {0, 4, 7, 1, 5, 12};
          int at = i * 5 % 6;
          if (i % 4 == 1) x.turn(i % 2, 1 + i % 5, i % 10);
          else if (i % 7 == 3) x.prime(i % 9);
          else x.number(at / 3, e[at], 10 + i);
        }
        for (int i = 1; i <= 8; i++) {
          due("back()", x.back(), 8 - i);
          alike(toldOf(x), were.get(n - i));
        }
        due("back()", x.back(), STATE);
        alike(toldOf(x), were.get(n - 8));
      }
    });
    sentence(32, "A step older than the last 8 can't be TAKEN BACK, also if others were.", "nine, some back, some more", () -> {
      DoubleRootSums x = new DoubleRootSums();
      x.support(3);
      x.sum(0, 0, 0);
      for (int i = 1; i <= 9; i++) x.number(0, 1, i);
      for (int i = 0; i < 3; i++) due("back()", x.back(), 7 - i);
      x.number(0, 1, 50);
      due("count(6)", x.count(6), 6);
      x.number(0, 1, 51);
      x.number(0, 1, 52);
      due("count(6)", x.count(6), 8);
      int[] told = {51, 50, 6, 5, 4, 3, 2, 1};
      for (int i = 0; i < 8; i++) {
        due("back()", x.back(), 7 - i);
        due("told", x.at(0, 1, 0), told[i]);
      }
      due("back()", x.back(), STATE);
      due("told", x.at(0, 1, 0), 1);
    });
    String none = "support(), sum(), formed(), turned(), times(), a set-up without FAULT (also of what it did), restore() leave none, where they aren't refused";
    sentence(32, none, "support()", () -> {
      leavesNone("support", x -> x.support(3));
      leavesThem("support", x -> x.support(1));
    });
    sentence(32, none, "sum()", () -> {
      leavesNone("sum", x -> x.sum(0, 0, 0));
      leavesThem("sum", x -> x.sum(0, 0, 10));
      leavesThem("sum", x -> x.sum(1, 0, 0));
    });
    sentence(32, none, "formed()", () -> {
      leavesNone("formed", x -> x.formed(0, 1, 0));
      leavesThem("formed", x -> x.formed(0, 0, 0));
      leavesThem("formed", x -> x.formed(0, 1, 1));
    });
    sentence(32, none, "turned()", () -> {
      leavesNone("turned", x -> x.turned(0));
      leavesThem("turned", x -> x.turned(1));
    });
    sentence(32, none, "times()", () -> {
      leavesNone("times", x -> x.times(0, 1));
      leavesThem("times", x -> x.times(0, 7));
      leavesThem("times", x -> x.times(1, 1));
    });
    sentence(32, none, "a set-up, of what it did, too; also if all was refused; not by a FAULT", () -> {
      leavesNone("n0111;p2", x -> readOf(x, "n0111;p2"));
      leavesNone("p9", x -> readOf(x, "p9"));
      leavesNone("a00", x -> readOf(x, "a00"));
      leavesThem("n0111;p2;", x -> readOf(x, "n0111;p2;"));
      leavesThem("nothing", x -> readOf(x, ""));
    });
    sentence(32, none, "restore()", () -> {
      leavesNone("restore", x -> x.restore());
      DoubleRootSums x = new DoubleRootSums();
      x.prime(3);
      due("restore()", x.restore(), STATE);
      due("count(6)", x.count(6), 1);
      due("back()", x.back(), 0);
      due("PRIME", x.count(0), 7);
    });
    sentence(32, none, "no other call", () -> {
      leavesThem("see", x -> x.see(1, 1) + x.see(-1, 0));
      leavesThem("list, put, copy, get", x -> x.list(1, 4) + x.put(1, 0, 5) + x.copy(1, 0, 0, 0, 1) + x.get(0, 0));
      leavesThem("feed", x -> x.feed('p'));
      leavesThem("image", x -> x.image());
      leavesThem("tried, write", x -> x.tried(0, 1) + x.write(0));
      leavesThem("what is asked", x -> x.chance(0, 2, 0) + x.lots(0, 40, 3) + x.fits(0, 1, 1) + x.all(0, 0) + x.three(0) + x.resultant(0));
    });
    sentence(32, "What prime(), number(), turn() changed can be TAKEN BACK", "nothing else is: SEEN, LISTS, THE PAPER", () -> {
      DoubleRootSums x = stepped();
      x.see(1, 1);
      x.put(0, 0, 8);
      x.write(0);
      x.feed('p');
      x.tried(0, 1);
      for (int i = 2; i >= 0; i--) due("back()", x.back(), i);
      due("SEEN", x.count(3), 1);
      due("LIST", x.get(0, 0), 8);
      due("THE PAPER", x.count(5) > 1 ? 1 : 0, 1);
      due("THE TEXT", x.count(4), 1);
      due("FAILURES", x.count(7) > 0 ? 1 : 0, 1);
    });
  }

  static void promise33() {
    String words = "A LIST becomes a row of n longs, all 0: 1. NONE: list; BAD: n above 20; SIZE.";
    sentence(33, words, "n 0 and n 20", () -> {
      DoubleRootSums x = new DoubleRootSums();
      for (int list = 0; list < 4; list++) {
        due("list(" + list + ", 20)", x.list(list, 20), 1);
        for (int i = 0; i < 20; i++) due("get", x.get(list, i), 0);
        due("get(" + list + ", 20)", x.get(list, 20), NO);
        due("list(" + list + ", 0)", x.list(list, 0), 1);
        due("get(" + list + ", 0)", x.get(list, 0), NO);
        due("put(" + list + ", 0, 1)", x.put(list, 0, 1), PLACE);
      }
    });
    sentence(33, words, "LIST below 0", () -> refused(BoundaryTests::rich, NONE, x -> x.list(-1, 1), x -> x.list(MIN, 1)));
    sentence(33, words, "LIST beyond 3", () -> refused(BoundaryTests::rich, NONE, x -> x.list(4, 1), x -> x.list(MAX, 1)));
    sentence(33, words, "BAD: n above 20", () -> refused(BoundaryTests::rich, BAD, x -> x.list(0, 21), x -> x.list(3, 22), x -> x.list(0, MAX)));
    sentence(33, "SIZE (-14): a size below 0", "-1 and the least int", () -> refused(BoundaryTests::rich, SIZE, x -> x.list(0, -1), x -> x.list(3, -1), x -> x.list(0, MIN)));
    sentence(33, "the first that a call's words name", "NONE ahead of BAD and SIZE", () ->
        refused(BoundaryTests::rich, NONE, x -> x.list(4, 21), x -> x.list(-1, -1), x -> x.list(4, -1)));
    sentence(33, words, "all 0, also where there was another row", () -> {
      DoubleRootSums x = new DoubleRootSums();
      listOf(x, 2, 1, 2, 3, 4);
      due("list(2, 3)", x.list(2, 3), 1);
      for (int i = 0; i < 3; i++) due("get", x.get(2, i), 0);
      due("get(2, 3)", x.get(2, 3), NO);
      due("list(2, 5)", x.list(2, 5), 1);
      for (int i = 0; i < 5; i++) due("get", x.get(2, i), 0);
    });
    sentence(33, words, "the others stay", () -> {
      DoubleRootSums x = rich();
      x.list(1, 3);
      x.put(1, 0, 9);
      due("get(0, 0)", x.get(0, 0), 5);
      due("get(0, 2)", x.get(0, 2), Long.MAX_VALUE);
      due("get(2, 0)", x.get(2, 0), NO);
    });
  }

  static void promise34() {
    String words = "Place i of a LIST becomes v: 1. NONE; NOTHING; PLACE.";
    sentence(34, words, "LIST below 0", () -> refused(BoundaryTests::rich, NONE, x -> x.put(-1, 0, 1), x -> x.put(MIN, 0, 1)));
    sentence(34, words, "LIST beyond 3", () -> refused(BoundaryTests::rich, NONE, x -> x.put(4, 0, 1), x -> x.put(MAX, -1, 1)));
    sentence(34, "NOTHING (-11): none is held", "whatever the place", () ->
        refused(BoundaryTests::rich, NOTHING, x -> x.put(2, 0, 1), x -> x.put(3, -1, 1), x -> x.put(3, 20, 1)));
    sentence(34, "PLACE (-13): no such place", "below 0", () -> refused(BoundaryTests::rich, PLACE, x -> x.put(0, -1, 1), x -> x.put(0, MIN, 1)));
    sentence(34, "PLACE (-13): no such place", "behind the last", () -> {
      refused(BoundaryTests::rich, PLACE, x -> x.put(0, 3, 1), x -> x.put(0, 19, 1), x -> x.put(0, 20, 1), x -> x.put(0, MAX, 1));
      refused(BoundaryTests::full, PLACE, x -> x.put(3, 20, 1), x -> x.put(3, -1, 1));
    });
    sentence(34, "PLACE (-13): no such place", "of a row of 0 longs", () -> refused(BoundaryTests::rich, PLACE, x -> x.put(1, 0, 1), x -> x.put(1, -1, 1)));
    sentence(34, words, "the first and the last place, the least and the greatest long", () -> {
      DoubleRootSums x = new DoubleRootSums();
      x.list(3, 20);
      long[] vs = {Long.MIN_VALUE, Long.MAX_VALUE, -1, 0, 1L << 32};
      for (long v : vs) {
        due("put", x.put(3, 0, v), 1);
        due("put", x.put(3, 19, v), 1);
        due("get", x.get(3, 0), v);
        due("get", x.get(3, 19), v);
        due("get", x.get(3, 1), 0);
        due("get", x.get(3, 18), 0);
      }
    });
  }

  static void promise35() {
    String words = "Place i of a LIST. NO: no such LIST, nothing there, no such place.";
    sentence(35, words, "no such LIST", () -> refused(BoundaryTests::rich, NO, x -> x.get(-1, 0), x -> x.get(4, 0), x -> x.get(MIN, 0), x -> x.get(MAX, 0)));
    sentence(35, words, "nothing there", () -> refused(BoundaryTests::rich, NO, x -> x.get(2, 0), x -> x.get(3, -1), x -> x.get(3, 19)));
    sentence(35, words, "no such place", () -> {
      refused(BoundaryTests::rich, NO, x -> x.get(0, -1), x -> x.get(0, 3), x -> x.get(0, 20), x -> x.get(1, 0), x -> x.get(1, -1), x -> x.get(0, MIN),
          x -> x.get(0, MAX));
      refused(BoundaryTests::full, NO, x -> x.get(3, 20));
    });
    sentence(35, words, "the first and the last place", () -> {
      DoubleRootSums x = rich();
      due("get(0, 0)", x.get(0, 0), 5);
      due("get(0, 2)", x.get(0, 2), Long.MAX_VALUE);
      due("get(3, 19)", full().get(3, 19), -7);
    });
    sentence(35, "what is asked changes nothing", "a place", () -> changesNothing(BoundaryTests::rich, x -> x.get(0, 0), x -> x.get(0, 2)));
  }

  /** LISTS: 1 2 3 4; 7 8; a row of 0 longs; nothing. */
  static DoubleRootSums listed() {
    DoubleRootSums x = new DoubleRootSums();
    listOf(x, 0, 1, 2, 3, 4);
    listOf(x, 1, 7, 8);
    x.list(2, 0);
    return x;
  }

  static void listDue(DoubleRootSums x, int list, long... want) {
    for (int i = 0; i < want.length; i++) due("get(" + list + ", " + i + ")", x.get(list, i), want[i]);
    due("get behind", x.get(list, want.length), NO);
  }

  static void promise36() {
    String words = "NONE: lists; NOTHING; PLACE: n, i or j below 0, or beyond either's end.";
    sentence(36, words, "LISTS below 0 or beyond 3", () -> refused(BoundaryTests::listed, NONE, x -> x.copy(-1, 0, 0, 0, 1), x -> x.copy(0, 0, -1, 0, 1),
        x -> x.copy(4, 0, 0, 0, 1), x -> x.copy(0, 0, 4, 0, 1), x -> x.copy(MIN, 0, 0, 0, 0), x -> x.copy(0, 0, MAX, 0, 0)));
    sentence(36, "NOTHING (-11): none is held", "either", () -> refused(BoundaryTests::listed, NOTHING, x -> x.copy(3, 0, 0, 0, 1), x -> x.copy(0, 0, 3, 0, 1),
        x -> x.copy(3, 0, 3, 0, 0), x -> x.copy(0, 0, 3, 0, 0)));
    sentence(36, "the first that a call's words name", "NONE ahead of NOTHING ahead of PLACE", () -> {
      refused(BoundaryTests::listed, NONE, x -> x.copy(3, 0, 4, 0, 1), x -> x.copy(-1, 0, 3, 0, 1), x -> x.copy(0, -1, 4, 0, 1));
      refused(BoundaryTests::listed, NOTHING, x -> x.copy(3, -1, 0, 0, 1), x -> x.copy(0, 0, 3, -1, 1), x -> x.copy(0, 0, 3, 0, -1), x -> x.copy(3, 0, 0, 9, 1));
    });
    sentence(36, words, "n below 0", () -> refused(BoundaryTests::listed, PLACE, x -> x.copy(0, 0, 1, 0, -1), x -> x.copy(0, 2, 1, 2, -1), x -> x.copy(0, 0, 1, 0, MIN)));
    sentence(36, words, "i below 0", () -> refused(BoundaryTests::listed, PLACE, x -> x.copy(0, -1, 1, 0, 1), x -> x.copy(0, -1, 1, 0, 0), x -> x.copy(0, MIN, 1, 0, 1)));
    sentence(36, words, "j below 0", () -> refused(BoundaryTests::listed, PLACE, x -> x.copy(0, 0, 1, -1, 1), x -> x.copy(0, 0, 1, -1, 0), x -> x.copy(0, 0, 1, MIN, 1)));
    sentence(36, words, "beyond the first one's end", () -> refused(BoundaryTests::listed, PLACE, x -> x.copy(1, 0, 0, 0, 3), x -> x.copy(1, 1, 0, 0, 2),
        x -> x.copy(1, 2, 0, 0, 1), x -> x.copy(1, 3, 0, 0, 0), x -> x.copy(2, 0, 0, 0, 1), x -> x.copy(1, 19, 0, 0, 1)));
    sentence(36, words, "beyond the other one's end", () -> refused(BoundaryTests::listed, PLACE, x -> x.copy(0, 0, 1, 0, 3), x -> x.copy(0, 0, 1, 1, 2),
        x -> x.copy(0, 0, 1, 2, 1), x -> x.copy(0, 0, 1, 3, 0), x -> x.copy(0, 0, 2, 0, 1), x -> x.copy(0, 0, 0, 2, 3), x -> x.copy(0, 0, 1, 19, 1)));
    sentence(36, words, "so far beyond that ints wrap", () -> refused(BoundaryTests::listed, PLACE, x -> x.copy(0, MAX, 1, 0, 1), x -> x.copy(0, 0, 1, MAX, 1),
        x -> x.copy(0, 1, 1, 0, MAX), x -> x.copy(0, 1, 1, 1, MAX), x -> x.copy(0, MAX, 1, MAX, MAX), x -> x.copy(0, 0, 1, MAX, MAX), x -> x.copy(0, MAX, 1, 0, MAX)));
    sentence(36, words, "up to the end is not beyond; none of it, too", () -> {
      DoubleRootSums x = listed();
      due("copy(0, 2, 1, 0, 2)", x.copy(0, 2, 1, 0, 2), 2);
      listDue(x, 1, 3, 4);
      due("copy(1, 1, 0, 3, 1)", x.copy(1, 1, 0, 3, 1), 1);
      due("copy(0, 0, 0, 0, 4)", x.copy(0, 0, 0, 0, 4), 4);
      listDue(x, 0, 1, 2, 3, 4);
      due("none of it", x.copy(0, 4, 1, 2, 0), 0);
      due("none of none", x.copy(2, 0, 2, 0, 0), 0);
      due("none of none", x.copy(0, 4, 2, 0, 0), 0);
      listDue(x, 0, 1, 2, 3, 4);
      listDue(x, 1, 3, 4);
      listDue(x, 2);
    });
    sentence(36, "n places of a LIST from i on come to another one (or the same) from j on, as they all were: n.", "the same one, onwards and backwards", () -> {
      DoubleRootSums x = listed();
      due("onwards", x.copy(0, 0, 0, 1, 3), 3);
      listDue(x, 0, 1, 1, 2, 3);
      x = listed();
      due("backwards", x.copy(0, 1, 0, 0, 3), 3);
      listDue(x, 0, 2, 3, 4, 4);
      x = listed();
      due("by two", x.copy(0, 0, 0, 2, 2), 2);
      listDue(x, 0, 1, 2, 1, 2);
      DoubleRootSums y = new DoubleRootSums();
      y.list(0, 20);
      for (int i = 0; i < 20; i++) y.put(0, i, i);
      due("nineteen", y.copy(0, 0, 0, 1, 19), 19);
      for (int i = 0; i < 20; i++) due("get", y.get(0, i), Math.max(0, i - 1));
      y.list(1, 20);
      due("twenty", y.copy(0, 0, 1, 0, 20), 20);
      due("the last", y.get(1, 19), 18);
    });
  }

  static void promise37() {
    String words = "THE IMAGE is taken: how many SUMS.";
    sentence(37, words, "of nothing; of all that is full", () -> {
      due("image()", new DoubleRootSums().image(), 0);
      due("image()", full().image(), 6);
      DoubleRootSums x = new DoubleRootSums();
      x.image();
      made(x, 0, 1, 1, 2);
      x.see(1, 1);
      x.prime(3);
      due("restore()", x.restore(), 0);
      for (int what = 0; what < 4; what++) due("count(" + what + ")", x.count(what), what == 0 ? 7 : 0);
      due("ofSum(0, 0)", x.ofSum(0, 0), NONE);
    });
    sentence(37, words, "the latest alone is held", () -> {
      DoubleRootSums x = rich();
      due("image()", x.image(), 2);
      x.prime(0);
      x.number(0, 0, 9);
      due("image()", x.image(), 2);
      x.number(0, 0, 10);
      x.prime(8);
      due("restore()", x.restore(), 2);
      due("told", x.at(0, 0, 0), 9);
      due("PRIME", x.count(0), 5);
      due("restore()", x.restore(), 2);
      due("told", x.at(0, 0, 0), 9);
    });
    sentence(37, words, "nothing but THE IMAGE is changed", () -> {
      List<String> with = shownBy(imaged(true)), without = shownBy(imaged(false));
      // What restore() shows is another thing: compare what is shown ahead of it.
      alike(with.subList(0, indexOfRestore(with)), without.subList(0, indexOfRestore(without)));
    });
  }

  static DoubleRootSums imaged(boolean again) {
    DoubleRootSums x = rich();
    if (again) x.image();
    return x;
  }

  static int indexOfRestore(List<String> shown) {
    for (int i = 0; i < shown.size(); i++) if (shown.get(i).startsWith("restore()")) return i;
    wrong("restore() isn't shown");
    return 0;
  }

  static void promise38() {
    String words = "All is as THE IMAGE: how many SUMS. STATE: there is none.";
    sentence(38, words, "STATE: there is none", () -> refused(() -> {
      DoubleRootSums x = new DoubleRootSums();
      x.support(bits(0, 1, 2));
      x.sum(0, 1, 2);
      x.number(0, 1, 9);
      x.see(1, 2);
      x.prime(4);
      feedAll(x, "p1");
      listOf(x, 0, 4);
      x.tried(0, 1);
      x.write(0);
      return x;
    }, STATE, x -> x.restore(), x -> x.restore()));
    sentence(38, "THE IMAGE: PRIME, SUPPORTS, SUMS, SEEN.", "all of it, from full to what was", () -> {
      DoubleRootSums x = new DoubleRootSums();
      x.support(bits(0, 1, 2));
      x.sum(0, 1, 2);
      x.number(0, 1, 9);
      x.see(1, 2);
      x.prime(2);
      x.image();
      x.prime(8);
      for (int i = 0; i < 5; i++) x.support(bits(5, 6));
      for (int i = 0; i < 5; i++) x.sum(1, 5, 5);
      x.number(0, 0, 77);
      x.number(0, 1, 78);
      x.turn(0, 4, 4);
      x.see(-1, 0);
      for (int i = 0; i < 4; i++) x.see(i, i);
      due("restore()", x.restore(), 1);
      int[] counts = {11, 1, 1, 1, 0, 0, 0, 0};
      for (int what = 0; what < 8; what++) due("count(" + what + ")", x.count(what), counts[what]);
      due("ofSum(0, 1)", x.ofSum(0, 1), 1);
      due("ofSum(0, 2)", x.ofSum(0, 2), 2);
      due("at(0, 0, 0)", x.at(0, 0, 0), 0);
      due("at(0, 1, 0)", x.at(0, 1, 0), 9);
      due("ofSupport(1, 0)", x.ofSupport(1, 0), NONE);
      due("ofSum(1, 0)", x.ofSum(1, 0), NONE);
      // SIGNED 0 - t + 0 = 2 at 1 MODULO 11
      due("fits(0, 1, 1)", x.fits(0, 1, 1), 9);
    });
    sentence(38, "THE IMAGE: PRIME, SUPPORTS, SUMS, SEEN.", "TOLD at each EXPONENT of each SUM, each row SEEN", () -> {
      DoubleRootSums x = fresh(8);
      int[] supports = {bits(0, 1, 2, 3, 4, 5), bits(6, 7, 8, 9, 10, 11), bits(2, 4, 6, 8, 10, 12)};
      for (int s : supports) x.support(s);
      for (int s = 0; s < 6; s++) x.sum(s % 3, 0, 0);
      for (int s = 0; s < 6; s++) for (int e = 0; e < 13; e++) if ((supports[s % 3] >> e & 1) == 1) x.number(s, e, 13 * s + e + 1);
      for (int i = 0; i < 4; i++) x.see(0, 1);
      x.image();
      for (int s = 0; s < 6; s++) for (int e = 0; e < 13; e++) if ((supports[s % 3] >> e & 1) == 1) x.number(s, e, 99);
      x.see(-1, 0);
      for (int i = 0; i < 4; i++) x.see(i + 1, 30 - i);
      due("restore()", x.restore(), 6);
      for (int s = 0; s < 6; s++)
        for (int e = 0; e < 13; e++) if ((supports[s % 3] >> e & 1) == 1) due("at(" + s + ", " + e + ", 0)", x.at(s, e, 0), 13 * s + e + 1);
      due("what is SEEN holds", x.fits(0, 5, 0), 31);
      due("what is SEEN", x.count(3), 4);
    });
    sentence(38, "THE IMAGE: PRIME, SUPPORTS, SUMS, SEEN.", "from nothing to full", () -> {
      DoubleRootSums x = new DoubleRootSums();
      x.image();
      x.restore();
      due("image of nothing", x.count(2), 0);
      DoubleRootSums f = full();
      f.see(-1, 0);
      f.number(1, 3, 98);
      due("restore()", f.restore(), 6);
      due("SEEN", f.count(3), 4);
      due("SUPPORTS", f.count(1), 6);
      due("told", f.at(1, 3, 0), 0);
      due("fits", f.fits(0, 1, 1), 1);
      due("a seventh", f.sum(0, 0, 0), FULL);
      due("a fifth", f.see(0, 0), FULL);
    });
    sentence(38, words, "as often as it is asked for; what is changed behind it isn't THE IMAGE's", () -> {
      DoubleRootSums x = rich();
      for (int i = 0; i < 3; i++) {
        x.number(0, 0, 40 + i);
        x.turn(1, 0, 0);
        x.prime(7);
        x.see(-1, 0);
        x.see(2, 2);
        x.support(bits(4, 5));
        due("restore()", x.restore(), 2);
        due("told", x.at(0, 0, 0), 1);
        due("kind", x.ofSum(1, 1), 3);
        due("PRIME", x.count(0), 7);
        due("SEEN", x.fits(0, 1, 1), 1);
        due("SUPPORTS", x.count(1), 2);
      }
    });
    sentence(38, "restore() leaves THE TEXT, THE PAPER, LISTS, FAILURES.", "all four", () -> {
      DoubleRootSums x = rich();
      due("restore()", x.restore(), 2);
      due("THE TEXT", x.count(4), 6);
      due("THE PAPER", x.count(5), 11);
      due("THE PAPER", x.paper(0), '1');
      due("FAILURES", x.count(7), 3);
      due("FAILURES", x.reason(1, 0), 2);
      due("LIST", x.get(0, 1), -4);
      due("LIST", x.get(0, 2), Long.MAX_VALUE);
      due("LIST of 0", x.put(1, 0, 1), PLACE);
      due("THE TEXT is what it was", x.read(), 2);
      due("PRIME", x.count(0), 13);
    });
    sentence(38, "restore() leaves THE TEXT, THE PAPER, LISTS, FAILURES.", "those that came behind THE IMAGE, too", () -> {
      DoubleRootSums x = new DoubleRootSums();
      int s = made(x, 0, 1, 1, 2);
      x.image();
      x.write(s);
      x.tried(s, 1);
      feedAll(x, "p3");
      listOf(x, 3, 5);
      x.restore();
      due("THE PAPER", x.count(5), 7);
      due("FAILURES", x.count(7), 2);
      due("THE TEXT", x.count(4), 2);
      due("LIST", x.get(3, 0), 5);
    });
  }

  static void promise39() {
    String words = "6 steps that can be TAKEN BACK, 7 FAILURES. BAD.";
    sentence(39, words, "what below 0", () -> refused(BoundaryTests::rich, BAD, x -> x.count(-1), x -> x.count(MIN)));
    sentence(39, words, "what beyond 7", () -> refused(BoundaryTests::rich, BAD, x -> x.count(8), x -> x.count(MAX)));
    sentence(39, "0 the PRIME p itself, 1 SUPPORTS, 2 SUMS, 3 SEEN, 4 letters of THE TEXT, 5 of THE PAPER", "each another number", () -> {
      int[] rich = {11, 2, 2, 1, 6, 11, 5, 3}, full = {7, 6, 6, 4, 80, 11, 8, 3};
      for (int what = 0; what < 8; what++) {
        due("count(" + what + ")", rich().count(what), rich[what]);
        due("count(" + what + ") of what is full", full().count(what), full[what]);
        due("count(" + what + ") of a new one", new DoubleRootSums().count(what), what == 0 ? 7 : 0);
      }
    });
    sentence(39, "what is asked changes nothing", "all that can be asked", () -> {
      for (int what = 0; what < 8; what++) {
        int w = what;
        changesNothing(BoundaryTests::rich, x -> x.count(w));
      }
    });
  }

  // Every call with the ends of all ranges, in three states.

  static final String[] CALLED = {"prime", "support", "ofSupport", "relation", "sum", "number", "turn", "ofSum", "at", "value",
      "common", "row", "resultant", "formed", "isFormed", "by", "tried", "reason", "turned", "times", "all", "three", "chance",
      "see", "fits", "lots", "feed", "read", "write", "paper", "back", "list", "put", "get", "copy", "image", "restore", "count"};
  static final long[] MANY_ENDS = {MIN, -100, -32, -31, -2, -1, 0, 1, 2, 3, 4, 5, 6, 7, 8, 9, 10, 11, 12, 13, 17, 19, 20, 21, 30, 31, 32, 33, 40, 41, 63, 64,
      79, 80, 81, 99, 100, 127, 128, 255, 256, 4095, 4096, 8191, 8192, 65535, 65536, 1 << 30, MAX};
  static final long[] ENDS = {MIN, -1, 0, 1, 2, 3, 5, 6, 7, 9, 10, 12, 31, 99, 100, MAX};
  static final long[] FEW_ENDS = {-1, 0, 1, 3, 4, MAX};

  static Method called(String name) {
    for (Method m : DoubleRootSums.class.getMethods()) if (m.getName().equals(name) && m.getDeclaringClass() == DoubleRootSums.class) return m;
    throw new IllegalStateException("no method " + name);
  }

  static long answer(DoubleRootSums x, Method m, long[] a) {
    Object[] given = new Object[a.length];
    for (int i = 0; i < a.length; i++) given[i] = m.getParameterTypes()[i] == long.class ? (Object) a[i] : (Object) (int) a[i];
    try {
      return ((Number) m.invoke(x, given)).longValue();
    } catch (InvocationTargetException e) {
      throw new IllegalStateException(m.getName() + Arrays.toString(a) + " threw " + e.getCause());
    } catch (IllegalAccessException e) {
      throw new IllegalStateException(m.getName() + " isn't public");
    }
  }

  static boolean isRefusal(Method m, long answer) {
    if (m.getReturnType() == long.class) return answer == NO;
    return answer == NONE || answer == BAD || answer == STATE || answer == FULL || answer == NOTHING || answer == PLACE || answer == SIZE;
  }

  /** All ways to take arguments from the ends. */
  static List<long[]> ways(int arguments) {
    long[] ends = arguments < 3 ? MANY_ENDS : arguments == 3 ? ENDS : FEW_ENDS;
    List<long[]> l = new ArrayList<>();
    l.add(new long[0]);
    for (int i = 0; i < arguments; i++) {
      List<long[]> more = new ArrayList<>();
      for (long[] a : l)
        for (long end : ends) {
          long[] longer = Arrays.copyOf(a, a.length + 1);
          longer[a.length] = end;
          more.add(longer);
        }
      l = more;
    }
    return l;
  }

  /** Whatever a call refuses leaves all as it is; none throws. */
  static void refusalsOf(String name, State state) {
    Method m = called(name);
    List<String> untouched = shownBy(state.make());
    List<long[]> refusals = new ArrayList<>();
    DoubleRootSums asked = state.make();
    int calls = 0;
    for (long[] a : ways(m.getParameterCount())) {
      if (calls++ == 300) {
        asked = state.make();
        calls = 0;
      }
      if (isRefusal(m, answer(asked, m, a))) {
        refusals.add(a);
      } else {
        asked = state.make();
        calls = 0;
      }
    }
    for (int from = 0; from < refusals.size(); from += 80) {
      DoubleRootSums x = state.make();
      for (long[] a : refusals.subList(from, Math.min(from + 80, refusals.size())))
        due(name + Arrays.toString(a) + " is refused again", isRefusal(m, answer(x, m, a)) ? 1 : 0, 1);
      alike(shownBy(x), untouched);
    }
  }

  static void answers() {
    for (int i = 0; i < CALLED.length; i++) {
      String name = CALLED[i];
      String words = "What is answered so changes nothing";
      sentence(i + 2, words, "whatever " + name + "() refuses, of something of all", () -> refusalsOf(name, BoundaryTests::rich));
      sentence(i + 2, words, "whatever " + name + "() refuses, of all that is full", () -> refusalsOf(name, BoundaryTests::full));
      sentence(i + 2, words, "whatever " + name + "() refuses, of a new object", () -> refusalsOf(name, DoubleRootSums::new));
    }
  }

  static void constants() {
    String words = "public static final int NONE = -1, BAD = -2, STATE = -3, FULL = -4;";
    sentence(1, words, "the constants", () -> {
      due("NONE", DoubleRootSums.NONE, -1);
      due("BAD", DoubleRootSums.BAD, -2);
      due("STATE", DoubleRootSums.STATE, -3);
      due("FULL", DoubleRootSums.FULL, -4);
    });
    sentence(1, "NO: Long.MIN_VALUE.", "the constant", () -> due("NO", DoubleRootSums.NO, Long.MIN_VALUE));
  }

  /** The document without its lines' ends; empty, if it isn't here. */
  static String documentHere() {
    Path path = Path.of("../shared/DOC.md");
    try {
      return Files.isReadable(path) ? Files.readString(path).replaceAll("\\s+", " ") : "";
    } catch (java.io.IOException e) {
      return "";
    }
  }

  public static void main(String[] args) throws Exception {
    document = documentHere();
    constants();
    for (int i = 1; i <= 39; i++) BoundaryTests.class.getDeclaredMethod("promise" + i).invoke(null);
    answers();
    now = "all";
    for (int i = 1; i <= 39; i++) if (!promises.contains(i)) wrong("no sentence of promise " + i);
    System.out.println(wrong == 0 ? sentences + " sentences hold" : wrong + " answers are not as due");
    if (wrong != 0) System.exit(1);
  }
}
