/** For each promise of the document: ordinary calls, the edges that it names, and wrong inputs. */
public final class PromiseTests {
  static int wrong = 0;
  static int promise = 0;

  static void due(String call, long got, long want) {
    if (got != want) {
      wrong++;
      System.out.println("promise " + promise + ": " + call + " answered " + got + ", due is " + want);
    }
  }

  static int bits(int... exponents) {
    int b = 0;
    for (int e : exponents) b |= 1 << e;
    return b;
  }

  /** A SUM of KIND 0 with what is TOLD, of a SUPPORT of its own: pairs of an EXPONENT and a number. */
  static int made(DoubleRootSums x, int... pairs) {
    int b = 0;
    for (int i = 0; i < pairs.length; i += 2) b |= 1 << pairs[i];
    int sum = x.sum(x.support(b), 0, 0);
    for (int i = 0; i < pairs.length; i += 2) x.number(sum, pairs[i], pairs[i + 1]);
    return sum;
  }

  static void feedAll(DoubleRootSums x, String text) {
    for (int i = 0; i < text.length(); i++) x.feed(text.charAt(i));
  }

  static int readOf(DoubleRootSums x, String text) {
    feedAll(x, text);
    return x.read();
  }

  static void paperDue(DoubleRootSums x, int sum, String text) {
    due("write " + text, x.write(sum), text.length());
    for (int i = 0; i < text.length(); i++) due("paper " + text + " at " + i, x.paper(i), text.charAt(i));
    due("paper behind " + text, x.paper(text.length()), -1);
  }

  static void promise1() {
    DoubleRootSums x = new DoubleRootSums();
    due("PRIME", x.count(0), 7);
    for (int what = 1; what < 8; what++) due("count " + what, x.count(what), 0);
    due("ofSupport", x.ofSupport(0, 0), -1);
    due("ofSum", x.ofSum(0, 0), -1);
    for (int list = 0; list < 4; list++) due("get", x.get(list, 0), Long.MIN_VALUE);
    due("NONE", DoubleRootSums.NONE, -1);
    due("BAD", DoubleRootSums.BAD, -2);
    due("STATE", DoubleRootSums.STATE, -3);
    due("FULL", DoubleRootSums.FULL, -4);
    due("NO", DoubleRootSums.NO, Long.MIN_VALUE);
  }

  static void promise2() {
    DoubleRootSums x = new DoubleRootSums();
    int[] primes = {5, 7, 11, 13, 17, 19, 23, 29, 31};
    int was = 1;
    for (int k = 0; k < 9; k++) {
      due("prime " + k, x.prime(k), was);
      due("count(0)", x.count(0), primes[k]);
      was = k;
    }
    due("prime -1", x.prime(-1), -1);
    due("prime 9", x.prime(9), -1);
    due("prime min", x.prime(Integer.MIN_VALUE), -1);
    due("PRIME stays", x.count(0), 31);
    due("steps", x.count(6), 8);
  }

  static void promise3() {
    DoubleRootSums x = new DoubleRootSums();
    due("one", x.support(bits(4)), -2);
    due("none", x.support(0), -2);
    due("seven", x.support(bits(0, 1, 2, 3, 4, 5, 6)), -2);
    due("beyond 12", x.support(bits(0, 13)), -2);
    due("below 0", x.support(-1), -2);
    due("below 0", x.support(Integer.MIN_VALUE + 3), -2);
    due("bit 30", x.support(bits(0, 1, 30)), -2);
    due("two", x.support(bits(0, 12)), 0);
    due("six", x.support(bits(0, 1, 2, 3, 4, 12)), 1);
    x.prime(2);
    due("again", x.support(bits(0, 12)), 2);
    due("no steps", x.count(6), 0);
    due("3", x.support(3), 3);
    due("4", x.support(3), 4);
    due("5", x.support(3), 5);
    x.prime(2);
    due("full", x.support(3), -4);
    due("bad ahead of full", x.support(1), -2);
    due("steps stay", x.count(6), 1);
    due("count", x.count(1), 6);
  }

  static void ofSupportDue(DoubleRootSums x, int support, int... want) {
    for (int what = 0; what < want.length; what++) due("ofSupport " + support + " " + what, x.ofSupport(support, what), want[what]);
  }

  static void promise4() {
    DoubleRootSums x = new DoubleRootSums();
    x.support(bits(0, 4, 6));
    x.support(bits(3, 9));
    x.support(bits(1, 2, 5, 7, 11, 12));
    x.support(bits(2, 5, 8, 11));
    ofSupportDue(x, 0, bits(0, 4, 6), 3, 6, 2, 3, 3, 1, -1);
    ofSupportDue(x, 1, bits(3, 9), 2, 6, 6, 1, 0, 0, -1);
    ofSupportDue(x, 2, bits(1, 2, 5, 7, 11, 12), 6, 11, 1, 11, 20, 4, -1);
    ofSupportDue(x, 3, bits(2, 5, 8, 11), 4, 9, 3, 3, 4, 2, -1);
    due("no support", x.ofSupport(4, 0), -1);
    due("no support", x.ofSupport(-1, 0), -1);
    due("no what", x.ofSupport(0, -1), -1);
  }

  static void promise5() {
    DoubleRootSums x = new DoubleRootSums();
    x.support(bits(1, 5, 11, 12));
    // 6, -10, 4 by 2; 1, -7, 6
    int[][] want = {{1, 103, 101}, {5, 95, 101}, {11, 102, 93}, {12, 100, 106}};
    for (int[] w : want) {
      due("relation 0 at " + w[0], x.relation(0, 0, w[0]), w[1]);
    }
    due("relation 1 at 1", x.relation(0, 1, 1), 100);
    due("relation 1 at 5", x.relation(0, 1, 5), 101);
    due("relation 1 at 11", x.relation(0, 1, 11), 93);
    due("relation 1 at 12", x.relation(0, 1, 12), 106);
    due("no support", x.relation(1, 0, 1), -1);
    due("no support", x.relation(-1, 0, 1), -1);
    due("no i", x.relation(0, 2, 1), -1);
    due("no i", x.relation(0, -1, 1), -1);
    due("no exponent", x.relation(0, 0, 2), -1);
    due("no exponent", x.relation(0, 0, -1), -1);
    due("no exponent", x.relation(0, 0, 33), -1);
    x.support(bits(0, 5));
    due("none of two", x.relation(1, 0, 0), -1);
    x.support(bits(0, 4, 8));
    due("by the divisor", x.relation(2, 0, 4), 98);
  }

  static void promise6() {
    DoubleRootSums x = new DoubleRootSums();
    due("no support", x.sum(0, 0, 0), -1);
    x.support(3);
    due("no support", x.sum(-1, 0, 0), -1);
    due("no kind", x.sum(0, 6, 0), -1);
    due("no kind", x.sum(0, -1, 0), -1);
    due("no kind ahead of bad", x.sum(0, 6, 10), -1);
    due("bad figure", x.sum(0, 0, 10), -2);
    due("bad figure", x.sum(0, 0, -1), -2);
    x.prime(0);
    due("sum", x.sum(0, 5, 9), 0);
    due("no steps", x.count(6), 0);
    due("kind", x.ofSum(0, 1), 5);
    due("figure", x.ofSum(0, 2), 9);
    due("told", x.at(0, 1, 0), 0);
    for (int i = 1; i < 6; i++) due("sum", x.sum(0, 0, 0), i);
    x.prime(0);
    due("full", x.sum(0, 0, 0), -4);
    due("bad ahead of full", x.sum(0, 0, 10), -2);
    due("steps stay", x.count(6), 1);
  }

  static void promise7() {
    DoubleRootSums x = new DoubleRootSums();
    x.support(bits(2, 12));
    x.sum(0, 0, 0);
    due("number", x.number(0, 2, 99), 0);
    due("number", x.number(0, 2, 0), 99);
    due("number", x.number(0, 12, 50), 0);
    due("told", x.at(0, 12, 0), 50);
    due("bad", x.number(0, 2, 100), -2);
    due("bad", x.number(0, 2, -1), -2);
    due("no exponent", x.number(0, 3, 1), -1);
    due("no exponent", x.number(0, 34, 1), -1);
    due("no exponent", x.number(0, -1, 1), -1);
    due("none ahead of bad", x.number(0, 3, 100), -1);
    due("no sum", x.number(1, 2, 1), -1);
    due("no sum", x.number(-1, 2, 1), -1);
    due("steps", x.count(6), 3);
  }

  static void promise8() {
    DoubleRootSums x = new DoubleRootSums();
    x.support(3);
    x.sum(0, 4, 7);
    due("turn", x.turn(0, 5, 9), 47);
    due("turn", x.turn(0, 0, 0), 59);
    due("turn", x.turn(0, 0, 0), 0);
    due("steps", x.count(6), 3);
    due("no sum", x.turn(1, 0, 0), -1);
    due("no kind", x.turn(0, 6, 0), -1);
    due("no kind", x.turn(0, -1, 0), -1);
    due("none ahead of bad", x.turn(0, 6, 10), -1);
    due("bad", x.turn(0, 0, 10), -2);
    due("bad", x.turn(0, 0, -1), -2);
    due("steps", x.count(6), 3);
  }

  static void promise9() {
    DoubleRootSums x = new DoubleRootSums();
    x.support(bits(0, 12));
    // (X-1)^2 (X-2) = X^3 - 4X^2 + 5X - 2
    int s = made(x, 0, 5, 1, 5, 2, 3, 3, 1);
    due("support", x.ofSum(s, 0), 1);
    due("roots", x.ofSum(s, 3), bits(1, 2));
    due("double", x.ofSum(s, 4), bits(1));
    due("numbers", x.ofSum(s, 5), 4);
    due("common", x.ofSum(s, 6), 1);
    x.number(s, 2, 7);
    due("numbers MODULO p", x.ofSum(s, 5), 3);
    due("no what", x.ofSum(s, 7), -1);
    due("no what", x.ofSum(s, -1), -1);
    due("no sum", x.ofSum(1, 0), -1);
    int nothing = x.sum(0, 0, 0);
    due("nothing's roots", x.ofSum(nothing, 3), bits(1, 2, 3, 4, 5, 6));
    due("nothing's double ones", x.ofSum(nothing, 4), bits(1, 2, 3, 4, 5, 6));
    due("nothing's numbers", x.ofSum(nothing, 5), 0);
    due("nothing's common", x.ofSum(nothing, 6), -5);
    x.prime(8);
    due("bit 30", x.ofSum(nothing, 3), Integer.MAX_VALUE - 1);
    // X^5 - 1 is (X-1)^5 MODULO 5, with a slope that is NOTHING.
    x.prime(0);
    int power = made(x, 0, 4, 5, 1);
    due("common of a fifth power", x.ofSum(power, 6), 5);
    due("double of it", x.ofSum(power, 4), bits(1));
  }

  static void atDue(DoubleRootSums x, int kind, int figure, int first, int middle, int last) {
    x.turn(0, kind, figure);
    String k = "kind " + kind + " figure " + figure;
    due(k, x.at(0, 2, 1), first);
    due(k, x.at(0, 5, 1), middle);
    due(k, x.at(0, 7, 1), last);
  }

  static void promise10() {
    DoubleRootSums x = new DoubleRootSums();
    made(x, 2, 10, 5, 30, 7, 99);
    x.prime(2);
    atDue(x, 0, 3, 10, 8, 0);
    x.prime(3);
    // MODULO 13: 10, 30 = 4, 99 = 8
    atDue(x, 0, 3, 10, 4, 8);
    atDue(x, 1, 3, 10, 9, 5);
    atDue(x, 2, 0, 10, 4, 8);
    atDue(x, 2, 3, 1, 3, 6);
    atDue(x, 3, 0, 7, 6, 9);
    atDue(x, 3, 9, 6, 9, 2);
    atDue(x, 4, 3, 1, 3, 0);
    atDue(x, 5, 3, 7, 7, 4);
    due("told", x.at(0, 7, 0), 99);
    due("no what", x.at(0, 7, 2), -1);
    due("no what", x.at(0, 7, -1), -1);
    due("no exponent", x.at(0, 6, 0), -1);
    due("no exponent", x.at(0, 6, 1), -1);
    due("no sum", x.at(1, 7, 0), -1);
  }

  static void promise11() {
    DoubleRootSums x = new DoubleRootSums();
    // 3 + 2X + 5X^4 MODULO 7
    int s = made(x, 0, 3, 1, 2, 4, 5);
    due("value 0", x.value(s, 0, 0), 3);
    due("value 1", x.value(s, 1, 0), 3);
    due("value 2", x.value(s, 2, 0), (3 + 4 + 80) % 7);
    due("slope 0", x.value(s, 0, 1), 2);
    due("slope 3", x.value(s, 3, 1), (2 + 20 * 27) % 7);
    due("order at 0", x.value(s, 0, 2), -1);
    due("x", x.value(s, 7, 0), -1);
    due("x", x.value(s, -1, 0), -1);
    due("what", x.value(s, 1, 3), -1);
    due("what", x.value(s, 1, -1), -1);
    due("sum", x.value(1, 1, 0), -1);
    // X^2 (X-1)^3 = X^5 - 3X^4 + 3X^3 - X^2
    int cube = made(x, 2, 6, 3, 3, 4, 4, 5, 1);
    due("order 3", x.value(cube, 1, 2), 3);
    due("order 0", x.value(cube, 2, 2), 0);
    due("slope of a triple", x.value(cube, 1, 1), 0);
    x.prime(0);
    int fifth = made(x, 2, 3, 12, 2);
    // 2 X^2 (X^10 - 1) is 2 X^2 (X+1)^5 (X-1)^5 MODULO 5
    due("order 5 at 1", x.value(fifth, 1, 2), 5);
    due("order 5 at 4", x.value(fifth, 4, 2), 5);
    due("order 0 at 2", x.value(fifth, 2, 2), 0);
    int nothing = x.sum(0, 0, 0);
    due("order of nothing", x.value(nothing, 1, 2), 99);
    due("value of nothing", x.value(nothing, 1, 0), 0);
  }

  static void promise12() {
    DoubleRootSums x = new DoubleRootSums();
    // 3 X (X-1)^2 (X-2)^2 (X - 5): the common part is (X-1)(X-2) = X^2 - 3X + 2
    x.prime(3);
    int a = made(x, 1, 3, 2, 10);
    // 3X (1 - X)^... made by times: 3X^2 - 3X, then by, (X-2), (X-2), (X-5)
    int[] by = {1, 2, 2, 5};
    int s = a;
    x.number(a, 1, 10);
    x.number(a, 2, 3);
    for (int y : by) s = x.times(s, y);
    due("highest", x.ofSum(s, 6), 2);
    due("0", x.common(s, 0), 2);
    due("1", x.common(s, 1), 10);
    due("2", x.common(s, 2), 1);
    due("beyond", x.common(s, 3), 0);
    due("far beyond", x.common(s, Integer.MAX_VALUE), 0);
    due("below", x.common(s, -1), -1);
    due("sum", x.common(6, 0), -1);
    // LOWERED has no power of X, if the least number isn't 0
    x = new DoubleRootSums();
    int nothing = made(x, 0, 7, 3, 0);
    due("nothing", x.common(nothing, 0), -5);
    due("below ahead of nothing", x.common(nothing, -1), -1);
    x.number(nothing, 3, 2);
    due("X to the 2", x.common(nothing, 2), 1);
    due("X to the 2", x.common(nothing, 0), 0);
    x.prime(0);
    int fifth = made(x, 1, 3, 6, 4);
    due("slope nothing", x.ofSum(fifth, 6), 5);
    due("slope nothing", x.common(fifth, 0), 2);
    due("slope nothing", x.common(fifth, 5), 1);
    due("constant", x.ofSum(made(x, 4, 3, 5, 0), 6), 0);
  }

  static void promise13() {
    DoubleRootSums x = new DoubleRootSums();
    // LOWERED 2 + 3X + 4X^3, ITS SLOPE 3 + 12X^2 MODULO 7
    int s = made(x, 1, 2, 2, 3, 4, 4);
    int[][] want = {{4, 0, 3, 2, 0}, {0, 4, 0, 3, 2}, {5, 0, 3, 0, 0}, {0, 5, 0, 3, 0}, {0, 0, 5, 0, 3}};
    for (int i = 0; i < 5; i++) for (int j = 0; j < 5; j++) due("row " + i + " " + j, x.row(s, i, j), want[i][j]);
    due("i", x.row(s, 5, 0), -1);
    due("j", x.row(s, 0, 5), -1);
    due("i", x.row(s, -1, 0), -1);
    due("j", x.row(s, 0, -1), -1);
    due("sum", x.row(1, 0, 0), -1);
    int small = made(x, 5, 2, 6, 3);
    due("one row", x.row(small, 0, 0), 3);
    due("one row", x.row(small, 0, 1), -1);
    int great = made(x, 0, 1, 12, 1);
    due("last", x.row(great, 22, 22), 0);
    due("last", x.row(great, 22, 11), 5);
    due("last", x.row(great, 23, 0), -1);
    due("last", x.row(great, 10, 22), 1);
  }

  static void promise14() {
    DoubleRootSums x = new DoubleRootSums();
    x.prime(8);
    // a X^2 + b X + c: a (4ac - b^2)
    int s = made(x, 3, 5, 4, 6, 5, 2);
    due("of three", x.resultant(s), Math.floorMod(2 * (4 * 2 * 5 - 36), 31));
    // X^2 - 2X + 1
    x.number(s, 3, 1);
    x.number(s, 4, 29);
    x.number(s, 5, 1);
    due("of a square", x.resultant(s), 0);
    int line = made(x, 0, 9, 1, 4);
    due("of a line", x.resultant(line), 4);
    // X^3 + a X + b: -(-4a^3 - 27b^2)
    int cubic = made(x, 0, 3, 1, 2, 3, 1);
    due("cubic", x.resultant(cubic), Math.floorMod(4 * 8 + 27 * 9, 31));
    due("sum", x.resultant(3), -1);
    due("sum", x.resultant(-1), -1);
  }

  static void promise15() {
    DoubleRootSums x = new DoubleRootSums();
    x.support(bits(0, 1, 3));
    x.support(bits(0, 5));
    due("nothing there", x.formed(0, 1, 0), -11);
    x.list(0, 0);
    due("place", x.formed(0, 1, 0), -13);
    due("bad x ahead of place", x.formed(0, 0, 0), -2);
    due("x p", x.formed(0, 7, 0), -2);
    due("no support", x.formed(2, 0, 0), -1);
    due("no list", x.formed(0, 0, 4), -1);
    due("no list", x.formed(0, 0, -1), -1);
    x.prime(1);
    due("of two", x.formed(1, 3, 0), 0);
    due("steps", x.count(6), 0);
    due("nothing", x.ofSum(0, 5), 0);
    x.list(1, 3);
    x.put(1, 0, Long.MIN_VALUE);
    // MIN_VALUE is -(2^63), 2^63 is 1 MODULO 7: t = 6; RELATION 2, -3, 1; x 3: OVER 1, 3, 27 is 1, 5, 6
    due("formed", x.formed(0, 3, 1), 1);
    due("at 0", x.at(1, 0, 0), 12 % 7);
    due("at 1", x.at(1, 1, 0), Math.floorMod(-18 * 5, 7));
    due("at 3", x.at(1, 3, 0), 36 % 7);
    due("kind", x.ofSum(1, 1), 0);
    due("support", x.ofSum(1, 0), 0);
    due("double", x.value(1, 3, 2), 2);
    for (int i = 2; i < 6; i++) due("formed", x.formed(0, 1, 1), i);
    due("full", x.formed(0, 1, 1), -4);
    due("place ahead of full", x.formed(0, 1, 0), -13);
  }

  static void promise16() {
    DoubleRootSums x = new DoubleRootSums();
    // (X-2)^2 = X^2 - 4X + 4
    int s = made(x, 0, 4, 1, 3, 2, 1);
    due("formed", x.isFormed(s, 2), 1);
    due("not", x.isFormed(s, 1), 0);
    due("x 0", x.isFormed(s, 0), -2);
    due("x 7", x.isFormed(s, 7), -2);
    due("sum", x.isFormed(1, 0), -1);
    int nothing = x.sum(0, 0, 0);
    for (int y = 1; y < 7; y++) due("nothing", x.isFormed(nothing, y), 1);
    int two = made(x, 0, 0, 7, 0);
    due("two, nothing", x.isFormed(two, 1), 1);
    x.number(two, 0, 6);
    x.number(two, 7, 1);
    due("two, a double root", x.ofSum(two, 4), bits(1));
    due("two", x.isFormed(two, 1), 0);
    // MODULO 5 the relation of 0, 5, 10 (1, -2, 1) isn't all that has value and slope 0
    x.prime(0);
    int three = made(x, 0, 4, 5, 1, 10, 0);
    due("value", x.value(three, 1, 0), 0);
    due("slope", x.value(three, 1, 1), 0);
    due("not formed", x.isFormed(three, 1), 0);
  }

  static void promise17() {
    DoubleRootSums x = new DoubleRootSums();
    x.support(bits(0, 1, 2, 3));
    x.list(0, 2);
    x.put(0, 0, 5);
    x.put(0, 1, 20);
    int s = x.formed(0, 3, 0);
    due("0", x.by(s, 3, 0), 5);
    due("1", x.by(s, 3, 1), 6);
    due("not formed", x.by(s, 2, 0), -5);
    due("i", x.by(s, 3, 2), -1);
    due("i", x.by(s, 3, -1), -1);
    due("i ahead of x", x.by(s, 0, 2), -1);
    due("x", x.by(s, 0, 0), -2);
    due("x", x.by(s, 7, 0), -2);
    due("sum", x.by(1, 1, 0), -1);
    // MODULO 7 of 0, 1, 7, 8, 2 RELATIONS: (6, -7, 1) and (1, -7, 6): 6, 0, 1, 0 and 0, 1, 0, 6: by one alone
    x.support(bits(0, 1, 7, 8));
    int t = x.formed(1, 1, 0);
    due("at 1", x.at(t, 1, 0), 6);
    due("0", x.by(t, 1, 0), 5);
    due("1", x.by(t, 1, 1), 6);
    // MODULO 5 of 0, 5, 6, 11: (1, -6, 5) = 1, 4, 0, 0 and (5, -6, 1) = 0, 0, 4, 1
    x.prime(0);
    x.support(bits(0, 5, 6, 11));
    int u = x.formed(2, 1, 0);
    due("0", x.by(u, 1, 0), 0);
    due("1", x.by(u, 1, 1), 0);
    due("two has none", x.by(made(x, 0, 0, 1, 0), 1, 0), -1);
  }

  static void reasonsDue(DoubleRootSums x, int... pairs) {
    due("failures", x.count(7), pairs.length / 2);
    for (int i = 0; i < pairs.length; i++) due("reason " + i / 2 + " " + i % 2, x.reason(i / 2, i % 2), pairs[i]);
    due("behind", x.reason(pairs.length / 2, 0), -1);
  }

  static void promise18() {
    DoubleRootSums x = new DoubleRootSums();
    x.support(3);
    x.sum(0, 0, 0);
    // (X-2)(X-4) = X^2 - 6X + 8 MODULO 7
    int s = made(x, 0, 1, 1, 1, 2, 1);
    due("nothing holds all", x.tried(0, 1), 0);
    due("value", x.tried(s, 1), 1);
    due("slope", x.tried(s, 2), 2);
    x.number(s, 0, 4);
    x.number(s, 1, 3);
    due("all", x.tried(s, 2), 0);
    due("x", x.tried(s, 0), -2);
    due("x", x.tried(s, 7), -2);
    due("sum", x.tried(2, 0), -1);
    x.prime(0);
    due("formed", x.tried(made(x, 0, 4, 5, 1), 1), 4);
  }

  static void promise19() {
    DoubleRootSums x = new DoubleRootSums();
    x.support(3);
    x.sum(0, 0, 0);
    reasonsDue(x);
    // (X-2)(X-4)
    int s = made(x, 0, 1, 1, 1, 2, 1);
    x.tried(s, 1);
    reasonsDue(x, 10, 1, 1, 3);
    due("what", x.reason(0, 2), -1);
    due("what", x.reason(0, -1), -1);
    due("i", x.reason(-1, 0), -1);
    due("a refused one", x.tried(s, 0), -2);
    due("a refused one", x.tried(4, 1), -1);
    reasonsDue(x, 10, 1, 1, 3);
    x.tried(s, 2);
    reasonsDue(x, 10, 1, 2, 5, 6, 0);
    x.tried(0, 1);
    reasonsDue(x);
    x = new DoubleRootSums();
    // (X-1)^2 (X-3)^2 is asked at 2: two DOUBLE roots; SLOPE (2-1)^2 (2-3)^2
    int t = made(x, 0, 6, 1, 1);
    for (int y : new int[] {1, 3, 3, 2}) t = x.times(t, y);
    due("trial", x.tried(t, 2), 2);
    reasonsDue(x, 10, 4, 2, 1, 6, 2);
    x = new DoubleRootSums();
    x.prime(0);
    // 2 X^2 (X^10 - 1), roots 1 and 4
    int f = made(x, 2, 3, 12, 2);
    x.tried(f, 1);
    reasonsDue(x, 10, 0, 4, 2, 7, 2);
    x.image();
    x.restore();
    reasonsDue(x, 10, 0, 4, 2, 7, 2);
  }

  static void promise20() {
    DoubleRootSums x = new DoubleRootSums();
    int s = made(x, 1, 3, 4, 20, 12, 7);
    x.turn(s, 2, 1);
    due("turned", x.turned(s), 1);
    due("support", x.ofSum(1, 0), 1);
    due("exponents", x.ofSupport(1, 0), bits(1, 9, 12));
    due("at 12", x.at(1, 12, 0), 6);
    due("at 9", x.at(1, 9, 0), 5);
    due("at 1", x.at(1, 1, 0), 0);
    due("kind", x.ofSum(1, 1), 0);
    due("figure", x.ofSum(1, 2), 0);
    due("steps", x.count(6), 0);
    due("back again", x.turned(1), 2);
    due("the first support like it", x.ofSum(2, 0), 0);
    due("supports", x.count(1), 2);
    due("no sum", x.turned(3), -1);
    due("no sum", x.turned(-1), -1);
    for (int i = 0; i < 4; i++) x.support(bits(0, 2, 3));
    x.sum(5, 0, 0);
    due("a support would come", x.turned(3), -4);
    due("none would", x.turned(1), 4);
    x.turned(1);
    due("full", x.turned(1), -4);
    due("sums", x.count(2), 6);
  }

  static void promise21() {
    DoubleRootSums x = new DoubleRootSums();
    int s = made(x, 0, 2, 3, 3);
    // (2 + 3X^3)(X - 2) = 3X^4 - 6X^3 + 2X - 4
    due("times", x.times(s, 2), 1);
    due("exponents", x.ofSupport(x.ofSum(1, 0), 0), bits(0, 1, 3, 4));
    due("at 0", x.at(1, 0, 0), 3);
    due("at 1", x.at(1, 1, 0), 2);
    due("at 3", x.at(1, 3, 0), 1);
    due("at 4", x.at(1, 4, 0), 3);
    due("steps", x.count(6), 0);
    due("by X", x.times(s, 0), 2);
    due("exponents", x.ofSupport(x.ofSum(2, 0), 0), bits(1, 4));
    due("x p", x.times(s, 7), -2);
    due("x -1", x.times(s, -1), -2);
    due("sum ahead of x", x.times(3, 7), -1);
    // One NUMBER alone: by X fewer than two, by another two
    x.number(s, 3, 7);
    due("one", x.times(s, 0), -3);
    due("two", x.times(s, 1), 3);
    x.number(s, 0, 7);
    due("nothing", x.times(s, 1), -3);
    int high = made(x, 2, 1, 12, 1);
    due("above 12", x.times(high, 1), -3);
    x.number(high, 12, 0);
    due("a support would come", x.count(1), 5);
    due("times", x.times(high, 1), 5);
    due("state ahead of full", x.times(s, 1), -3);
    due("full", x.times(high, 1), -4);
    x = new DoubleRootSums();
    int long1 = made(x, 0, 1, 2, 1, 4, 1, 6, 1);
    due("eight exponents", x.times(long1, 1), -3);
    x.number(long1, 6, 0);
    due("six", x.times(long1, 1), 1);
    x.number(long1, 6, 1);
    due("by X", x.times(long1, 0), 2);
    for (int i = 0; i < 4; i++) x.support(3);
    due("supports full", x.count(1), 6);
    due("full of supports", x.times(2, 0), -4);
    due("like one", x.times(long1, 0), 3);
    due("state", x.times(long1, 1), -3);
  }

  static void promise22() {
    DoubleRootSums x = new DoubleRootSums();
    x.support(bits(0, 1, 2));
    x.support(bits(0, 1));
    x.support(bits(0, 5, 10));
    x.support(bits(1, 2, 4));
    x.prime(0);
    // b^2 = 4ac: for each a, b there is one c
    due("how many", x.all(0, 0), 16);
    due("first", x.all(0, 1), 10000 + 100 + 4);
    // (a + bX + cX^2)^5, each with a root at all: 4 times (10 pairs of roots, 2 of them by which b is 0, less)
    due("fifth powers", x.all(2, 0), 4 * 8);
    due("of two", x.all(1, 0), -3);
    due("what", x.all(1, 2), -1);
    due("what", x.all(0, -1), -1);
    due("support", x.all(4, 0), -1);
    x.prime(3);
    due("p 13", x.all(0, 0), 144);
    x.prime(4);
    due("p 17", x.all(0, 0), -3);
    x.prime(1);
    due("cubic", x.all(3, 0), 36);
    x.support(bits(0, 1, 7));
    // the slope is one number that isn't 0
    due("none", x.all(4, 0), 0);
    due("no first", x.all(4, 1), -5);
  }

  static void promise23() {
    DoubleRootSums x = new DoubleRootSums();
    x.prime(8);
    int s = made(x, 0, 2, 2, 3, 4, 5);
    // n 2, k 1: 4 C A - B^2
    due("even", x.three(s), Math.floorMod(4 * 5 * 2 - 9, 31));
    int t = made(x, 1, 2, 2, 3, 4, 5);
    // n 3, k 1: 27 C A^2 + 4 B^3
    due("odd", x.three(t), Math.floorMod(27 * 5 * 4 + 4 * 27, 31));
    int u = made(x, 0, 2, 2, 3, 3, 5);
    // n 3, k 2: 27 C^2 A + 4 B^3
    due("k 2", x.three(u), Math.floorMod(27 * 25 * 2 + 4 * 27, 31));
    due("two", x.three(made(x, 0, 1, 1, 1)), -3);
    due("four", x.three(made(x, 0, 1, 1, 1, 2, 1, 3, 1)), -3);
    due("none", x.three(5), -1);
  }

  static void promise24() {
    DoubleRootSums x = new DoubleRootSums();
    // (X-1)^2: whole, or NOTHING: (8 + 1) of 27 by t 3
    int s = made(x, 0, 1, 1, 5, 2, 1);
    due("above", x.chance(s, 3, 0), 1);
    due("below", x.chance(s, 3, 1), 3);
    due("t 2", x.chance(s, 2, 0), 1);
    due("t 2", x.chance(s, 2, 1), 4);
    due("t 20", x.chance(s, 20, 0), 343);
    due("t 20", x.chance(s, 20, 1), 400);
    due("t 1", x.chance(s, 1, 0), Long.MIN_VALUE);
    due("t 21", x.chance(s, 21, 0), Long.MIN_VALUE);
    due("part", x.chance(s, 2, 2), Long.MIN_VALUE);
    due("part", x.chance(s, 2, -1), Long.MIN_VALUE);
    due("sum", x.chance(1, 2, 0), Long.MIN_VALUE);
    due("nothing stays", x.at(s, 1, 0), 5);
    int nothing = x.sum(0, 0, 0);
    due("sure", x.chance(nothing, 7, 0), 1);
    due("sure", x.chance(nothing, 7, 1), 1);
    int two = made(x, 3, 1, 5, 1);
    due("only nothing", x.chance(two, 20, 0), 1);
    due("only nothing", x.chance(two, 20, 1), 400);
  }

  static void promise25() {
    DoubleRootSums x = new DoubleRootSums();
    due("see", x.see(30, 30), 1);
    due("see", x.see(0, 0), 2);
    due("bad x", x.see(31, 0), -2);
    due("bad x", x.see(-2, 0), -2);
    due("bad v", x.see(0, 31), -2);
    due("bad v", x.see(0, -1), -2);
    due("see", x.see(0, 0), 3);
    due("see", x.see(1, 0), 4);
    due("full", x.see(1, 0), -4);
    due("bad ahead of full", x.see(31, 0), -2);
    due("count", x.count(3), 4);
    due("none", x.see(-1, 77), 0);
    due("count", x.count(3), 0);
    due("see", x.see(1, 0), 1);
  }

  static void promise26() {
    DoubleRootSums x = new DoubleRootSums();
    int s = made(x, 0, 3, 2, 5);
    due("nothing seen", x.fits(s, 0, 0), 7);
    due("nothing seen", x.fits(s, 0, 1), 0);
    // 3 + 4v = 1 MODULO 7: v = 3
    x.see(9, 29);
    due("one", x.fits(s, 2, 0), 1);
    due("least", x.fits(s, 2, 1), 3);
    x.see(0, 1);
    due("none", x.fits(s, 2, 0), 0);
    due("none", x.fits(s, 2, 1), -5);
    due("what", x.fits(s, 2, 2), -1);
    due("what", x.fits(s, 2, -1), -1);
    due("exponent", x.fits(s, 1, 0), -1);
    due("sum", x.fits(1, 0, 0), -1);
    due("told stays", x.at(s, 2, 0), 5);
    x.see(-1, 0);
    x.see(1, 3);
    x.turn(s, 4, 0);
    due("LOW: all", x.fits(s, 2, 0), 7);
    x.number(s, 0, 4);
    due("LOW: none", x.fits(s, 2, 0), 0);
    x.turn(s, 5, 0);
    due("SLOPED: 2v = 3", x.fits(s, 2, 1), 5);
  }

  static void promise27() {
    DoubleRootSums x = new DoubleRootSums();
    int s = made(x, 0, 3, 1, 5, 2, 1);
    int z = -77, doubles = 0;
    for (int lot = 0; lot < 40; lot++) {
      int[] told = new int[3];
      for (int e = 0; e < 3; e++) {
        z = z * 1103515245 + 12345;
        told[e] = (z & 0x7fffffff) / 65536 % 7;
      }
      boolean square = false;
      for (int y = 1; y < 7; y++)
        square |= (told[0] + told[1] * y + told[2] * y * y) % 7 == 0 && (told[1] + 2 * told[2] * y) % 7 == 0;
      if (square) doubles++;
    }
    due("lots", x.lots(s, 40, -77), doubles);
    due("again", x.lots(s, 40, -77), doubles);
    due("told stays", x.at(s, 1, 0), 5);
    due("steps", x.count(6), 3);
    due("n", x.lots(s, 0, 1), -2);
    due("n", x.lots(s, 41, 1), -2);
    due("sum ahead of n", x.lots(1, 0, 1), -1);
  }

  static void promise28() {
    DoubleRootSums x = new DoubleRootSums();
    due("bad", x.feed(128), -2);
    due("bad", x.feed(-1), -2);
    for (int i = 1; i <= 80; i++) due("feed", x.feed(i == 1 ? 0 : 127), i);
    due("full", x.feed(59), -4);
    due("bad ahead of full", x.feed(128), -2);
    due("count", x.count(4), 80);
  }

  static void promise29() {
    DoubleRootSums x = new DoubleRootSums();
    due("empty", x.read(), -100);
    String[] faults = {"x", "p", "px", "p1p", "p1;", "a", "a1", "a1;", "a1d", "a012345", "a0123456", "a01 ", "s", "s12", "s0a0", "s0000",
        "n", "n0", "na", "n0d", "n0a0", "n0aa", "n00000", "P1", ";p1", "p1;;", "p1 ;"};
    int[] place = {0, 1, 1, 2, 3, 1, 2, 2, 2, -1, 7, 3, 1, 3, 2, 4, 1, 2, 1, 2, 4, 3, 5, 0, 0, 3, 2};
    for (int i = 0; i < faults.length; i++) {
      if (place[i] < 0) continue;
      x.prime(1);
      due("fault of " + faults[i], readOf(x, faults[i]), -100 - place[i]);
      due("empty then", x.count(4), 0);
    }
    due("steps stay by a fault", x.count(6), 8);
    due("set-up", readOf(x, "p0"), 1);
    due("PRIME", x.count(0), 5);
    due("no steps", x.count(6), 0);
    due("signs", readOf(x, "aabc;a0c;a00;a012345"), 3);
    due("supports", x.ofSupport(0, 0), bits(10, 11, 12));
    due("supports", x.ofSupport(1, 0), bits(0, 12));
    due("supports", x.ofSupport(2, 0), bits(0, 1, 2, 3, 4, 5));
    due("sums", readOf(x, "s000;s160;s039;s300;s154;n0b99;n0400;n0a07;p9"), 5);
    due("kind", x.ofSum(1, 1), 3);
    due("figure", x.ofSum(1, 2), 9);
    due("support", x.ofSum(2, 0), 1);
    due("told", x.at(0, 11, 0), 99);
    due("told", x.at(0, 10, 0), 7);
    due("nothing done", readOf(x, "p9"), 0);
    x.prime(3);
    due("nothing done", readOf(x, "p9"), 0);
    due("no steps", x.count(6), 0);
    due("ten", readOf(x, "p0;p1;p2;p3;p4;p5;p6;p7;p8;p0"), 10);
    due("eleven", readOf(x, "p0;p1;p2;p3;p4;p5;p6;p7;p8;p0;p1"), -129);
    due("none of it done", x.count(0), 5);
    due("trailing", readOf(x, "p0;p1;p2;p3;p4;p5;p6;p7;p8;p0;"), -129);
  }

  static void promise30() {
    DoubleRootSums x = new DoubleRootSums();
    int s = made(x, 0, 1, 5, 3, 12, 14);
    due("none", x.write(1), -1);
    due("none", x.write(-1), -1);
    due("paper", x.count(5), 0);
    paperDue(x, s, "3x5+1x0");
    x.prime(8);
    paperDue(x, s, "14x12+3x5+1x0");
    due("none", x.write(1), -1);
    due("paper stays", x.count(5), 13);
    paperDue(x, x.sum(0, 0, 0), "0");
  }

  static void promise31() {
    DoubleRootSums x = new DoubleRootSums();
    due("nothing at first", x.paper(0), -1);
    int s = made(x, 0, 1, 5, 3);
    x.write(s);
    x.number(s, 0, 2);
    x.image();
    x.restore();
    due("it stays", x.paper(4), '1');
    due("below", x.paper(-1), -1);
    due("behind", x.paper(7), -1);
    due("last", x.paper(6), '0');
  }

  static void promise32() {
    DoubleRootSums x = new DoubleRootSums();
    due("none", x.back(), -3);
    x.support(3);
    x.sum(0, 1, 2);
    x.prime(0);
    x.number(0, 0, 50);
    x.number(0, 0, 50);
    x.turn(0, 5, 9);
    due("steps", x.count(6), 4);
    due("back", x.back(), 3);
    due("kind", x.ofSum(0, 1), 1);
    due("figure", x.ofSum(0, 2), 2);
    due("back", x.back(), 2);
    due("told", x.at(0, 0, 0), 50);
    due("back", x.back(), 1);
    due("told", x.at(0, 0, 0), 0);
    due("back", x.back(), 0);
    due("prime", x.count(0), 7);
    due("none", x.back(), -3);
    for (int v = 1; v <= 11; v++) x.number(0, 1, v);
    due("eight", x.count(6), 8);
    for (int i = 7; i >= 0; i--) due("back", x.back(), i);
    due("told", x.at(0, 1, 0), 3);
    due("none", x.back(), -3);
    mixedStepsDue();
    stepsEndDue(x, 0);
    stepsEndDue(x, 1);
    stepsEndDue(x, 2);
    stepsEndDue(x, 3);
    stepsEndDue(x, 4);
    x.image();
    stepsEndDue(x, 5);
    stepsEndDue(x, 6);
    x.prime(2);
    x.see(1, 1);
    x.image();
    x.list(0, 3);
    due("these leave them", x.count(6), 1);
  }

  /** Twelve steps of all kinds at two SUMS; the last eight are taken back one by one. */
  static void mixedStepsDue() {
    DoubleRootSums x = new DoubleRootSums();
    x.support(bits(0, 3, 7));
    x.sum(0, 1, 2);
    x.sum(0, 2, 3);
    for (int i = 0; i < 4; i++) x.number(i % 2, i < 2 ? 0 : 3, 40 + i);
    x.number(0, 3, 11);
    x.turn(1, 4, 5);
    x.number(1, 7, 12);
    x.prime(5);
    x.turn(0, 5, 9);
    x.number(1, 0, 13);
    x.number(0, 7, 14);
    x.prime(6);
    int[] fields = {x.at(0, 7, 0), x.at(1, 0, 0), 10 * x.ofSum(0, 1) + x.ofSum(0, 2), x.at(1, 7, 0), 10 * x.ofSum(1, 1) + x.ofSum(1, 2), x.at(0, 3, 0)};
    int[] now = {14, 13, 59, 12, 45, 11};
    for (int i = 0; i < 6; i++) due("told now " + i, fields[i], now[i]);
    due("back", x.back(), 7);
    due("prime", x.count(0), 19);
    due("back", x.back(), 6);
    due("told", x.at(0, 7, 0), 0);
    due("back", x.back(), 5);
    due("told", x.at(1, 0, 0), 41);
    due("back", x.back(), 4);
    due("turned back", 10 * x.ofSum(0, 1) + x.ofSum(0, 2), 12);
    due("back", x.back(), 3);
    due("prime", x.count(0), 7);
    due("back", x.back(), 2);
    due("told", x.at(1, 7, 0), 0);
    due("back", x.back(), 1);
    due("turned back", 10 * x.ofSum(1, 1) + x.ofSum(1, 2), 23);
    due("back", x.back(), 0);
    due("told", x.at(0, 3, 0), 42);
    due("told", x.at(0, 0, 0), 40);
    due("told", x.at(1, 3, 0), 43);
    due("none", x.back(), -3);
  }

  static void stepsEndDue(DoubleRootSums x, int by) {
    x.prime(2);
    due("steps", x.count(6), 1);
    int r = by == 0 ? x.support(3) : by == 1 ? x.sum(0, 0, 0) : by == 2 ? x.turned(0) : by == 3 ? x.times(0, 1)
        : by == 4 ? x.list(0, 0) + x.formed(0, 1, 0) : by == 5 ? x.restore() : readOf(x, "p9");
    due("answered " + by, r >= 0 ? 1 : 0, 1);
    due("no steps by " + by, x.count(6), 0);
  }

  static void promise33() {
    DoubleRootSums x = new DoubleRootSums();
    due("list", x.list(3, 20), 1);
    due("20th", x.get(3, 19), 0);
    x.put(3, 0, 9);
    due("anew", x.list(3, 1), 1);
    due("zero", x.get(3, 0), 0);
    due("gone", x.get(3, 1), Long.MIN_VALUE);
    due("empty", x.list(0, 0), 1);
    due("size", x.list(3, -1), -14);
    due("bad", x.list(3, 21), -2);
    due("none", x.list(4, 21), -1);
    due("none", x.list(-1, 0), -1);
    due("it stays", x.get(3, 0), 0);
  }

  static void promise34() {
    DoubleRootSums x = new DoubleRootSums();
    due("nothing", x.put(0, 0, 1), -11);
    due("none", x.put(4, 0, 1), -1);
    x.list(0, 2);
    due("put", x.put(0, 1, Long.MIN_VALUE), 1);
    due("got", x.get(0, 1), Long.MIN_VALUE);
    due("put", x.put(0, 0, Long.MAX_VALUE), 1);
    due("got", x.get(0, 0), Long.MAX_VALUE);
    due("place", x.put(0, 2, 1), -13);
    due("place", x.put(0, -1, 1), -13);
    x.list(0, 0);
    due("place", x.put(0, 0, 1), -13);
  }

  static void promise35() {
    DoubleRootSums x = new DoubleRootSums();
    due("nothing", x.get(0, 0), Long.MIN_VALUE);
    x.list(0, 2);
    x.put(0, 1, -6);
    due("got", x.get(0, 1), -6);
    due("place", x.get(0, 2), Long.MIN_VALUE);
    due("place", x.get(0, -1), Long.MIN_VALUE);
    due("none", x.get(4, 0), Long.MIN_VALUE);
    due("none", x.get(-1, 0), Long.MIN_VALUE);
  }

  static void promise36() {
    DoubleRootSums x = new DoubleRootSums();
    x.list(0, 4);
    for (int i = 0; i < 4; i++) x.put(0, i, i + 1);
    due("nothing", x.copy(0, 0, 1, 0, 1), -11);
    due("nothing", x.copy(1, 0, 0, 0, 1), -11);
    due("none", x.copy(0, 0, 4, 0, 1), -1);
    due("none", x.copy(-1, 0, 1, 0, 1), -1);
    due("on", x.copy(0, 0, 0, 1, 3), 3);
    for (int i = 0; i < 4; i++) due("as they were", x.get(0, i), new int[] {1, 1, 2, 3}[i]);
    due("back", x.copy(0, 1, 0, 0, 3), 3);
    for (int i = 0; i < 4; i++) due("as they were", x.get(0, i), new int[] {1, 2, 3, 3}[i]);
    x.list(1, 2);
    due("other", x.copy(0, 2, 1, 0, 2), 2);
    due("other", x.get(1, 1), 3);
    due("none of it", x.copy(0, 4, 1, 2, 0), 0);
    due("beyond", x.copy(0, 3, 1, 0, 2), -13);
    due("beyond", x.copy(0, 0, 1, 1, 2), -13);
    due("below", x.copy(0, -1, 1, 0, 1), -13);
    due("below", x.copy(0, 0, 1, -1, 1), -13);
    due("below", x.copy(0, 0, 1, 0, -1), -13);
    due("far", x.copy(0, Integer.MAX_VALUE, 1, 0, Integer.MAX_VALUE), -13);
    due("far", x.copy(0, 0, 1, Integer.MAX_VALUE, 1), -13);
    due("beyond, none of it", x.copy(0, 5, 1, 0, 0), -13);
  }

  static void promise37() {
    DoubleRootSums x = new DoubleRootSums();
    due("image", x.image(), 0);
    made(x, 0, 1, 1, 2);
    due("image", x.image(), 1);
    due("steps stay", x.count(6), 2);
    x.number(0, 0, 9);
    x.restore();
    due("the latest", x.at(0, 0, 0), 1);
  }

  static void promise38() {
    DoubleRootSums x = new DoubleRootSums();
    due("none", x.restore(), -3);
    x.prime(2);
    due("steps stay", x.count(6), 1);
    made(x, 0, 1, 1, 2);
    x.see(3, 4);
    x.image();
    x.number(0, 0, 9);
    x.turn(0, 1, 5);
    x.prime(4);
    x.see(5, 5);
    made(x, 3, 1, 5, 2);
    x.list(0, 2);
    x.put(0, 1, 8);
    feedAll(x, "p1");
    x.write(0);
    x.tried(0, 1);
    due("restore", x.restore(), 1);
    due("prime", x.count(0), 11);
    due("supports", x.count(1), 1);
    due("sums", x.count(2), 1);
    due("seen", x.count(3), 1);
    due("text stays", x.count(4), 2);
    due("paper stays", x.count(5) > 0 ? 1 : 0, 1);
    due("no steps", x.count(6), 0);
    due("failures stay", x.count(7) > 0 ? 1 : 0, 1);
    due("lists stay", x.get(0, 1), 8);
    due("told", x.at(0, 0, 0), 1);
    due("kind", x.ofSum(0, 1), 0);
    due("figure", x.ofSum(0, 2), 0);
    // 2v + 1 = ... at 3: the rows are as they were: 1 + 3v = 4 MODULO 11
    due("seen", x.fits(0, 1, 1), 1);
    x.number(0, 0, 5);
    due("again", x.restore(), 1);
    due("the image stays", x.at(0, 0, 0), 1);
    x.see(-1, 0);
    x.see(2, 0);
    x.restore();
    due("the rows seen are as they were", x.fits(0, 1, 1), 1);
    int later = x.sum(0, 0, 0);
    x.number(later, 0, 77);
    x.restore();
    due("a new sum", x.sum(0, 0, 0), later);
    due("told is 0 at first", x.at(later, 0, 0), 0);
    x.support(bits(3, 4));
    x.image();
    x.restore();
    due("a later image", x.ofSupport(1, 0), bits(3, 4));
  }

  static void promise39() {
    DoubleRootSums x = new DoubleRootSums();
    due("bad", x.count(8), -2);
    due("bad", x.count(-1), -2);
    x.prime(3);
    made(x, 0, 1, 1, 2);
    x.see(3, 4);
    feedAll(x, "p1;");
    x.write(0);
    x.tried(0, 1);
    int[] want = {13, 1, 1, 1, 3, 7, 2, 2};
    for (int what = 0; what < 8; what++) due("count " + what, x.count(what), want[what]);
  }

  public static void main(String[] args) throws Exception {
    for (int i = 1; i <= 39; i++) {
      promise = i;
      PromiseTests.class.getDeclaredMethod("promise" + i).invoke(null);
    }
    System.out.println(wrong == 0 ? "all promises answer as due" : wrong + " answers are not as due");
    if (wrong != 0) System.exit(1);
  }
}
