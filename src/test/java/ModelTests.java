import java.math.BigInteger;
import java.util.ArrayDeque;
import java.util.ArrayList;
import java.util.Arrays;
import java.util.Deque;
import java.util.List;
import java.util.regex.Matcher;
import java.util.regex.Pattern;

/**
 * Long runs of calls on the class and on a plain model written from the document by other ways (whole
 * determinants, searches through all numbers, patterns): every answer has to be the same.
 */
public final class ModelTests {
  static final int[] PRIMES = {5, 7, 11, 13, 17, 19, 23, 29, 31};
  static final int RUNS = 1000, CALLS = 512;

  static long seed = 20261118L;

  static int draw(int n) {
    seed = seed * 6364136223846793005L + 1442695040888963407L;
    return (int) ((seed >>> 33) % n);
  }

  static int between(int low, int high) {
    return low + draw(high - low + 1);
  }

  static final class Sum {
    int support, kind, figure;
    int[] told = new int[13];

    Sum same() {
      Sum s = new Sum();
      s.support = support;
      s.kind = kind;
      s.figure = figure;
      s.told = told.clone();
      return s;
    }
  }

  static final class Held {
    int prime = 1;
    List<Integer> supports = new ArrayList<>();
    List<Sum> sums = new ArrayList<>();
    List<int[]> seen = new ArrayList<>();

    Held same() {
      Held h = new Held();
      h.prime = prime;
      h.supports.addAll(supports);
      for (Sum s : sums) h.sums.add(s.same());
      h.seen.addAll(seen);
      return h;
    }
  }

  static final class Model {
    Held held = new Held();
    Held image;
    Deque<Runnable> steps = new ArrayDeque<>();
    long[][] lists = new long[4][];
    String text = "", paper = "";
    List<int[]> failures = new ArrayList<>();

    int p() { return PRIMES[held.prime]; }
    boolean noSupport(int s) { return s < 0 || s >= held.supports.size(); }
    boolean noSum(int s) { return s < 0 || s >= held.sums.size(); }
    int mod(long v) { return BigInteger.valueOf(v).mod(BigInteger.valueOf(p())).intValue(); }

    static List<Integer> exps(int bits) {
      List<Integer> l = new ArrayList<>();
      for (int e = 0; e < 31; e++) if ((bits & (1 << e)) != 0) l.add(e);
      return l;
    }

    List<Integer> expsOf(int sum) { return exps(held.supports.get(held.sums.get(sum).support)); }
    boolean noExp(int sum, int e) { return noSum(sum) || !expsOf(sum).contains(e); }

    long pow(long x, int e) { return BigInteger.valueOf(x).pow(e).mod(BigInteger.valueOf(p())).longValue(); }

    int over(int x) { return BigInteger.valueOf(x).modInverse(BigInteger.valueOf(p())).intValue(); }

    int numberBy(Sum s, int e, long v) {
      List<Integer> l = exps(held.supports.get(s.support));
      long signed = e % 2 != 0 ? 0 - v : v, scaled = v * (s.figure + 1);
      long r = v;
      if (s.kind == 1) r = signed;
      if (s.kind == 2) r = scaled;
      if (s.kind == 3) r = signed * (e + s.figure);
      if (s.kind == 4) r = e == l.get(l.size() - 1) ? 0 : scaled;
      if (s.kind == 5) r = e * v;
      return mod(r);
    }

    /** NUMBERS as a dense row of powers 0 .. 12. */
    int[] dense(Sum s) {
      int[] d = new int[13];
      for (int e : exps(held.supports.get(s.support))) d[e] = numberBy(s, e, s.told[e]);
      return d;
    }

    int valueOf(int[] d, int x) {
      long r = 0;
      for (int e = 0; e < d.length; e++) r += d[e] * pow(x, e);
      return mod(r);
    }

    int slopeOf(int[] d, int x) {
      long r = 0;
      for (int e = 1; e < d.length; e++) r += d[e] * e * pow(x, e - 1);
      return mod(r);
    }

    static int top(int[] d) {
      int t = d.length - 1;
      while (t >= 0 && d[t] == 0) t--;
      return t;
    }

    /** {quotient, rest} */
    int[][] divide(int[] a, int[] b) {
      int[] rest = a.clone(), q = new int[a.length];
      int tb = top(b);
      for (int t = top(rest); t >= tb; t = top(rest)) {
        int f = mod(rest[t] * over(b[tb]));
        q[t - tb] = f;
        for (int i = 0; i <= tb; i++) rest[t - tb + i] = mod(rest[t - tb + i] - f * b[i]);
      }
      return new int[][] {q, rest};
    }

    int orderOf(int[] d, int x) {
      if (top(d) < 0) return 99;
      int n = 0;
      int[] a = d.clone(), by = {mod(-x), 1};
      while (true) {
        int[][] r = divide(a, by);
        if (top(r[1]) >= 0) return n;
        n++;
        a = r[0];
      }
    }

    int bitsOfOrder(int[] d, int least) {
      int bits = 0;
      for (int x = 1; x < p(); x++) if (orderOf(d, x) >= least) bits |= 1 << x;
      return bits;
    }

    boolean hasDouble(int[] d) {
      for (int x = 1; x < p(); x++) if (valueOf(d, x) == 0 && slopeOf(d, x) == 0) return true;
      return false;
    }

    int[] loweredOf(int sum) {
      List<Integer> l = expsOf(sum);
      int[] d = dense(held.sums.get(sum));
      return Arrays.copyOfRange(d, l.get(0), l.get(l.size() - 1) + 1);
    }

    int[] slopeRow(int[] low) {
      int[] r = new int[low.length - 1];
      for (int i = 0; i < r.length; i++) r[i] = mod((i + 1) * low[i + 1]);
      return r;
    }

    /** null: none */
    int[] commonOf(int sum) {
      int[] a = loweredOf(sum), b = slopeRow(a);
      if (top(a) < 0) return null;
      while (top(b) >= 0) {
        int[] r = divide(a, b)[1];
        a = b;
        b = r;
      }
      int f = over(a[top(a)]);
      int[] r = new int[top(a) + 1];
      for (int i = 0; i < r.length; i++) r[i] = mod(a[i] * f);
      return r;
    }

    int[][] matrixOf(int sum) {
      int[] low = loweredOf(sum), slope = slopeRow(low);
      int span = low.length - 1, n = 2 * span - 1;
      int[][] m = new int[n][n];
      for (int j = 0; j < span - 1; j++)
        for (int i = 0; i <= span; i++) m[j][j + i] = low[span - i];
      for (int k = 0; k < span; k++)
        for (int i = 0; i < span; i++) m[span - 1 + k][k + i] = slope[span - 1 - i];
      return m;
    }

    /** The whole determinant, by Bareiss, MODULO p at the end alone. */
    int determinant(int[][] m) {
      int n = m.length;
      BigInteger[][] a = new BigInteger[n][n];
      for (int i = 0; i < n; i++) for (int j = 0; j < n; j++) a[i][j] = BigInteger.valueOf(m[i][j]);
      BigInteger before = BigInteger.ONE;
      int sign = 1;
      for (int k = 0; k < n - 1; k++) {
        int r = k;
        while (r < n && a[r][k].signum() == 0) r++;
        if (r == n) return 0;
        if (r != k) {
          BigInteger[] had = a[r];
          a[r] = a[k];
          a[k] = had;
          sign = -sign;
        }
        for (int i = k + 1; i < n; i++)
          for (int j = k + 1; j < n; j++)
            a[i][j] = a[i][j].multiply(a[k][k]).subtract(a[i][k].multiply(a[k][j])).divide(before);
        before = a[k][k];
      }
      return a[n - 1][n - 1].multiply(BigInteger.valueOf(sign)).mod(BigInteger.valueOf(p())).intValue();
    }

    static int gcd(int a, int b) { return BigInteger.valueOf(a).gcd(BigInteger.valueOf(b)).intValue(); }

    static int relationOf(int bits, int i, int e) {
      List<Integer> l = exps(bits);
      int a = l.get(i), b = l.get(i + 1), c = l.get(i + 2);
      int g = gcd(gcd(c - b, a - c), b - a);
      return e == a ? (c - b) / g : e == b ? (a - c) / g : e == c ? (b - a) / g : 0;
    }

    /** The least t in turn, null if there are none: a search, equation by equation. */
    int[] byOf(int sum, int x) {
      int bits = held.supports.get(held.sums.get(sum).support);
      int[] d = dense(held.sums.get(sum));
      List<Integer> l = exps(bits);
      int[] t = new int[l.size() - 2];
      return search(bits, l, d, x, t, 0) ? t : null;
    }

    boolean holds(int bits, List<Integer> l, int[] d, int x, int[] t, int place) {
      long r = 0;
      for (int i = 0; i < t.length; i++) r += t[i] * relationOf(bits, i, l.get(place));
      return mod(r * over((int) pow(x, l.get(place)))) == d[l.get(place)];
    }

    boolean search(int bits, List<Integer> l, int[] d, int x, int[] t, int at) {
      if (at == t.length) {
        for (int place = 0; place < l.size(); place++) if (!holds(bits, l, d, x, t, place)) return false;
        return true;
      }
      for (t[at] = 0; t[at] < p(); t[at]++) {
        // At this place no later relation has a part.
        int[] now = new int[t.length];
        System.arraycopy(t, 0, now, 0, at + 1);
        if (holds(bits, l, d, x, now, at) && search(bits, l, d, x, t, at + 1)) return true;
      }
      t[at] = 0;
      return false;
    }

    void step(Runnable undo) {
      steps.addLast(undo);
      if (steps.size() > 8) steps.removeFirst();
    }

    int prime(int k) {
      if (k < 0 || k > 8) return -1;
      int was = held.prime;
      step(() -> held.prime = was);
      held.prime = k;
      return was;
    }

    int support(int bits) {
      if (bits < 0 || bits >= 8192) return -2;
      if (exps(bits).size() < 2 || exps(bits).size() > 6) return -2;
      if (held.supports.size() == 6) return -4;
      held.supports.add(bits);
      steps.clear();
      return held.supports.size() - 1;
    }

    int ofSupport(int s, int what) {
      if (noSupport(s) || what < 0 || what > 6) return -1;
      int bits = held.supports.get(s);
      List<Integer> l = exps(bits);
      int n = l.size(), span = l.get(n - 1) - l.get(0), step = 0;
      for (int a : l) for (int b : l) step = gcd(step, a - b);
      int degree = (2 * span - (l.get(1) - l.get(0)) - (l.get(n - 1) - l.get(n - 2))) / step;
      return new int[] {bits, n, span, step, span / step, degree, n - 2}[what];
    }

    int relation(int s, int i, int e) {
      if (noSupport(s)) return -1;
      int bits = held.supports.get(s);
      if (i < 0 || i >= exps(bits).size() - 2 || !exps(bits).contains(e)) return -1;
      return 100 + relationOf(bits, i, e);
    }

    int sum(int support, int kind, int figure) {
      if (noSupport(support) || kind < 0 || kind > 5) return -1;
      if (figure < 0 || figure > 9) return -2;
      if (held.sums.size() == 6) return -4;
      return addSum(support, kind, figure, new int[13]);
    }

    int addSum(int support, int kind, int figure, int[] told) {
      Sum s = new Sum();
      s.support = support;
      s.kind = kind;
      s.figure = figure;
      s.told = told;
      held.sums.add(s);
      steps.clear();
      return held.sums.size() - 1;
    }

    int number(int sum, int e, int v) {
      if (noExp(sum, e)) return -1;
      if (v < 0 || v > 99) return -2;
      int was = held.sums.get(sum).told[e];
      step(() -> held.sums.get(sum).told[e] = was);
      held.sums.get(sum).told[e] = v;
      return was;
    }

    int turn(int sum, int kind, int figure) {
      if (noSum(sum) || kind < 0 || kind > 5) return -1;
      if (figure < 0 || figure > 9) return -2;
      Sum s = held.sums.get(sum);
      int k = s.kind, f = s.figure;
      step(() -> {
        held.sums.get(sum).kind = k;
        held.sums.get(sum).figure = f;
      });
      s.kind = kind;
      s.figure = figure;
      return 10 * k + f;
    }

    int ofSum(int sum, int what) {
      if (noSum(sum) || what < 0 || what > 6) return -1;
      Sum s = held.sums.get(sum);
      int[] d = dense(s);
      if (what == 0) return s.support;
      if (what == 1) return s.kind;
      if (what == 2) return s.figure;
      if (what == 3) return bitsOfOrder(d, 1);
      if (what == 4) return bitsOfOrder(d, 2);
      if (what == 5) return (int) Arrays.stream(d).filter(v -> v != 0).count();
      int[] c = commonOf(sum);
      return c == null ? -5 : c.length - 1;
    }

    int at(int sum, int e, int what) {
      if (noExp(sum, e) || what < 0 || what > 1) return -1;
      Sum s = held.sums.get(sum);
      return what == 0 ? s.told[e] : numberBy(s, e, s.told[e]);
    }

    int value(int sum, int x, int what) {
      if (noSum(sum) || x < 0 || x >= p() || what < 0 || what > 2 || what == 2 && x == 0) return -1;
      int[] d = dense(held.sums.get(sum));
      return what == 0 ? valueOf(d, x) : what == 1 ? slopeOf(d, x) : orderOf(d, x);
    }

    int common(int sum, int i) {
      if (noSum(sum) || i < 0) return -1;
      int[] c = commonOf(sum);
      return c == null ? -5 : i < c.length ? c[i] : 0;
    }

    int row(int sum, int i, int j) {
      if (noSum(sum)) return -1;
      int[][] m = matrixOf(sum);
      return i < 0 || j < 0 || i >= m.length || j >= m.length ? -1 : m[i][j];
    }

    int resultant(int sum) { return noSum(sum) ? -1 : determinant(matrixOf(sum)); }

    int formed(int support, int x, int list) {
      if (noSupport(support) || list < 0 || list > 3) return -1;
      if (x < 1 || x >= p()) return -2;
      if (lists[list] == null) return -11;
      int bits = held.supports.get(support);
      List<Integer> l = exps(bits);
      if (lists[list].length < l.size() - 2) return -13;
      if (held.sums.size() == 6) return -4;
      int[] told = new int[13];
      for (int e : l) {
        long r = 0;
        for (int i = 0; i < l.size() - 2; i++) r += (long) mod(lists[list][i]) * relationOf(bits, i, e);
        told[e] = mod(r * over((int) pow(x, e)));
      }
      return addSum(support, 0, 0, told);
    }

    int isFormed(int sum, int x) {
      if (noSum(sum)) return -1;
      if (x < 1 || x >= p()) return -2;
      return byOf(sum, x) == null ? 0 : 1;
    }

    int by(int sum, int x, int i) {
      if (noSum(sum) || i < 0 || i >= expsOf(sum).size() - 2) return -1;
      if (x < 1 || x >= p()) return -2;
      int[] t = byOf(sum, x);
      return t == null ? -5 : t[i];
    }

    int tried(int sum, int x) {
      if (noSum(sum)) return -1;
      if (x < 1 || x >= p()) return -2;
      failures.clear();
      int[] d = dense(held.sums.get(sum));
      int v = valueOf(d, x), s = slopeOf(d, x);
      if (v != 0) return fail(sum, 1, v);
      if (s != 0) return fail(sum, 2, s, 6, Integer.bitCount(bitsOfOrder(d, 2)));
      int r = resultant(sum);
      if (r != 0) return fail(sum, 3, r);
      if (byOf(sum, x) == null) return fail(sum, 4, expsOf(sum).size(), 7, Integer.bitCount(bitsOfOrder(d, 1)));
      return 0;
    }

    int fail(int sum, int... chain) {
      failures.add(new int[] {10, sum});
      for (int i = 0; i < chain.length; i += 2) failures.add(new int[] {chain[i], chain[i + 1]});
      return chain[0];
    }

    int reason(int i, int what) {
      return i < 0 || i >= failures.size() || what < 0 || what > 1 ? -1 : failures.get(i)[what];
    }

    int bring(int bits, int[] told) {
      int s = held.supports.indexOf(bits);
      if (held.sums.size() == 6 || s < 0 && held.supports.size() == 6) return -4;
      if (s < 0) {
        held.supports.add(bits);
        s = held.supports.size() - 1;
      }
      return addSum(s, 0, 0, told);
    }

    int turned(int sum) {
      if (noSum(sum)) return -1;
      int[] low = loweredOf(sum), told = new int[13];
      List<Integer> l = expsOf(sum);
      int first = l.get(0), last = l.get(l.size() - 1), bits = 0;
      for (int e = first; e <= last; e++) {
        told[e] = low[last - e];
        if (l.contains(first + last - e)) bits |= 1 << e;
      }
      return bring(bits, told);
    }

    int times(int sum, int x) {
      if (noSum(sum)) return -1;
      if (x < 0 || x >= p()) return -2;
      int[] d = dense(held.sums.get(sum)), r = new int[14];
      for (int e = 0; e < 14; e++) r[e] = mod((e > 0 ? d[e - 1] : 0) - (e < 13 ? (long) x * d[e] : 0));
      int bits = 0;
      for (int e = 0; e < 14; e++) if (r[e] != 0) bits += 1 << e;
      int n = Integer.bitCount(bits);
      if (n < 2 || n > 6 || r[13] != 0) return -3;
      return bring(bits, Arrays.copyOf(r, 13));
    }

    int all(int support, int what) {
      if (noSupport(support) || what < 0 || what > 1) return -1;
      List<Integer> l = exps(held.supports.get(support));
      if (l.size() != 3 || p() > 13) return -3;
      int many = 0, first = -5, q = p();
      long[][] pw = new long[q][13];
      for (int x = 0; x < q; x++) for (int e = 0; e < 13; e++) pw[x][e] = pow(x, e);
      for (int a = 1; a < q; a++)
        for (int b = 1; b < q; b++)
          for (int c = 1; c < q; c++) {
            int[] n = {a, b, c};
            boolean has = false;
            for (int x = 1; x < q && !has; x++) {
              long v = 0, s = 0;
              for (int i = 0; i < 3; i++) {
                v += n[i] * pw[x][l.get(i)];
                s += n[i] * l.get(i) * pw[x][l.get(i)];
              }
              has = v % q == 0 && s % q == 0;
            }
            if (has && many++ == 0) first = 10000 * a + 100 * b + c;
          }
      return what == 0 ? many : first;
    }

    int three(int sum) {
      if (noSum(sum)) return -1;
      List<Integer> l = expsOf(sum);
      if (l.size() != 3) return -3;
      int step = gcd(l.get(1) - l.get(0), l.get(2) - l.get(1));
      int n = (l.get(2) - l.get(0)) / step, k = (l.get(1) - l.get(0)) / step;
      int[] d = dense(held.sums.get(sum));
      BigInteger a = BigInteger.valueOf(d[l.get(0)]), b = BigInteger.valueOf(d[l.get(1)]), c = BigInteger.valueOf(d[l.get(2)]);
      BigInteger one = BigInteger.valueOf(n).pow(n).multiply(c.pow(k)).multiply(a.pow(n - k));
      BigInteger two = BigInteger.valueOf(n - k).pow(n - k).multiply(BigInteger.valueOf(k).pow(k)).multiply(b.pow(n));
      return (n % 2 == 0 ? one.subtract(two) : one.add(two)).mod(BigInteger.valueOf(p())).intValue();
    }

    long above(Sum s, List<Integer> l, int i, int t) {
      if (i == l.size()) return hasDouble(dense(s)) ? 1 : 0;
      int e = l.get(i), had = s.told[e];
      long r = (t - 1) * above(s, l, i + 1, t);
      s.told[e] = 0;
      r += above(s, l, i + 1, t);
      s.told[e] = had;
      return r;
    }

    long chance(int sum, int t, int part) {
      if (noSum(sum) || t < 2 || t > 20 || part < 0 || part > 1) return Long.MIN_VALUE;
      BigInteger a = BigInteger.valueOf(above(held.sums.get(sum).same(), expsOf(sum), 0, t));
      BigInteger b = BigInteger.valueOf(t).pow(expsOf(sum).size());
      return (part == 0 ? a : b).divide(a.gcd(b)).longValue();
    }

    int see(int x, int v) {
      if (x == -1) {
        held.seen.clear();
        return 0;
      }
      if (x < 0 || x > 30 || v < 0 || v > 30) return -2;
      if (held.seen.size() == 4) return -4;
      held.seen.add(new int[] {x, v});
      return held.seen.size();
    }

    int fits(int sum, int e, int what) {
      if (noExp(sum, e) || what < 0 || what > 1) return -1;
      Sum s = held.sums.get(sum).same();
      List<Integer> l = new ArrayList<>();
      for (int v = 0; v < p(); v++) {
        s.told[e] = v;
        int[] d = dense(s);
        if (held.seen.stream().allMatch(r -> valueOf(d, r[0] % p()) == r[1] % p())) l.add(v);
      }
      return what == 0 ? l.size() : l.isEmpty() ? -5 : l.get(0);
    }

    int lots(int sum, int n, int z) {
      if (noSum(sum)) return -1;
      if (n < 1 || n > 40) return -2;
      Sum s = held.sums.get(sum).same();
      int many = 0;
      for (int i = 0; i < n; i++) {
        for (int e : expsOf(sum)) {
          z = z * 1103515245 + 12345;
          s.told[e] = (z & Integer.MAX_VALUE) / 65536 % p();
        }
        if (hasDouble(dense(s))) many++;
      }
      return many;
    }

    int feed(int letter) {
      if (letter < 0 || letter > 127) return -2;
      if (text.length() == 80) return -4;
      text += (char) letter;
      return text.length();
    }

    static final String CLAUSE = "(p[0-9]|a[0-9a-c]{2,6}|s[0-9]{3}|n[0-9][0-9a-c][0-9]{2})";
    static final Pattern SET_UP = Pattern.compile(CLAUSE + "(;" + CLAUSE + "){0,9}");

    static int faultOf(String text) {
      for (int n = 1; n <= text.length(); n++) {
        Matcher m = SET_UP.matcher(text.substring(0, n));
        if (!m.matches() && !m.hitEnd()) return n - 1;
      }
      return SET_UP.matcher(text).matches() ? -1 : text.length();
    }

    static int sign(char c) { return "0123456789abc".indexOf(c); }

    int read() {
      String set = text;
      text = "";
      int fault = faultOf(set);
      if (fault >= 0) return -100 - fault;
      int done = 0;
      for (String c : set.split(";")) {
        int r;
        if (c.charAt(0) == 'p') r = prime(sign(c.charAt(1)));
        else if (c.charAt(0) == 's') r = sum(sign(c.charAt(1)), sign(c.charAt(2)), sign(c.charAt(3)));
        else if (c.charAt(0) == 'n') r = number(sign(c.charAt(1)), sign(c.charAt(2)), Integer.parseInt(c.substring(3)));
        else {
          int bits = 0;
          for (char x : c.substring(1).toCharArray()) bits |= 1 << sign(x);
          r = support(bits);
        }
        if (r >= 0) done++;
      }
      steps.clear();
      return done;
    }

    int write(int sum) {
      if (noSum(sum)) return -1;
      int[] d = dense(held.sums.get(sum));
      List<String> parts = new ArrayList<>();
      for (int e = 12; e >= 0; e--) if (d[e] != 0) parts.add(d[e] + "x" + e);
      paper = parts.isEmpty() ? "0" : String.join("+", parts);
      return paper.length();
    }

    int paper(int i) { return i < 0 || i >= paper.length() ? -1 : paper.charAt(i); }

    int back() {
      if (steps.isEmpty()) return -3;
      steps.removeLast().run();
      return steps.size();
    }

    int list(int list, int n) {
      if (list < 0 || list > 3) return -1;
      if (n > 20) return -2;
      if (n < 0) return -14;
      lists[list] = new long[n];
      return 1;
    }

    int put(int list, int i, long v) {
      if (list < 0 || list > 3) return -1;
      if (lists[list] == null) return -11;
      if (i < 0 || i >= lists[list].length) return -13;
      lists[list][i] = v;
      return 1;
    }

    long get(int list, int i) {
      if (list < 0 || list > 3 || lists[list] == null || i < 0 || i >= lists[list].length) return Long.MIN_VALUE;
      return lists[list][i];
    }

    int copy(int list, int i, int other, int j, int n) {
      if (list < 0 || list > 3 || other < 0 || other > 3) return -1;
      if (lists[list] == null || lists[other] == null) return -11;
      if (n < 0 || i < 0 || j < 0 || (long) i + n > lists[list].length || (long) j + n > lists[other].length) return -13;
      long[] were = Arrays.copyOfRange(lists[list], i, i + n);
      for (int k = 0; k < n; k++) lists[other][j + k] = were[k];
      return n;
    }

    int image() {
      image = held.same();
      return held.sums.size();
    }

    int restore() {
      if (image == null) return -3;
      held = image.same();
      steps.clear();
      return held.sums.size();
    }

    int count(int what) {
      if (what < 0 || what > 7) return -2;
      return new int[] {p(), held.supports.size(), held.sums.size(), held.seen.size(), text.length(), paper.length(), steps.size(), failures.size()}[what];
    }
  }

  static final String[] CALLED = {"prime", "support", "ofSupport", "relation", "sum", "number", "turn", "ofSum", "at", "value",
      "common", "row", "resultant", "formed", "isFormed", "by", "tried", "reason", "turned", "times", "all", "three", "chance",
      "see", "fits", "lots", "feed", "read", "write", "paper", "back", "list", "put", "get", "copy", "image", "restore", "count"};
  static int[] answered = new int[CALLED.length], refused = new int[CALLED.length];

  static long[] both(DoubleRootSums x, Model m, int c, int[] a, long v) {
    switch (c) {
      case 0: return new long[] {x.prime(a[0]), m.prime(a[0])};
      case 1: return new long[] {x.support(a[0]), m.support(a[0])};
      case 2: return new long[] {x.ofSupport(a[0], a[1]), m.ofSupport(a[0], a[1])};
      case 3: return new long[] {x.relation(a[0], a[1], a[2]), m.relation(a[0], a[1], a[2])};
      case 4: return new long[] {x.sum(a[0], a[1], a[2]), m.sum(a[0], a[1], a[2])};
      case 5: return new long[] {x.number(a[0], a[1], a[2]), m.number(a[0], a[1], a[2])};
      case 6: return new long[] {x.turn(a[0], a[1], a[2]), m.turn(a[0], a[1], a[2])};
      case 7: return new long[] {x.ofSum(a[0], a[1]), m.ofSum(a[0], a[1])};
      case 8: return new long[] {x.at(a[0], a[1], a[2]), m.at(a[0], a[1], a[2])};
      case 9: return new long[] {x.value(a[0], a[1], a[2]), m.value(a[0], a[1], a[2])};
      case 10: return new long[] {x.common(a[0], a[1]), m.common(a[0], a[1])};
      case 11: return new long[] {x.row(a[0], a[1], a[2]), m.row(a[0], a[1], a[2])};
      case 12: return new long[] {x.resultant(a[0]), m.resultant(a[0])};
      case 13: return new long[] {x.formed(a[0], a[1], a[2]), m.formed(a[0], a[1], a[2])};
      case 14: return new long[] {x.isFormed(a[0], a[1]), m.isFormed(a[0], a[1])};
      case 15: return new long[] {x.by(a[0], a[1], a[2]), m.by(a[0], a[1], a[2])};
      case 16: return new long[] {x.tried(a[0], a[1]), m.tried(a[0], a[1])};
      case 17: return new long[] {x.reason(a[0], a[1]), m.reason(a[0], a[1])};
      case 18: return new long[] {x.turned(a[0]), m.turned(a[0])};
      case 19: return new long[] {x.times(a[0], a[1]), m.times(a[0], a[1])};
      case 20: return new long[] {x.all(a[0], a[1]), m.all(a[0], a[1])};
      case 21: return new long[] {x.three(a[0]), m.three(a[0])};
      case 22: return new long[] {x.chance(a[0], a[1], a[2]), m.chance(a[0], a[1], a[2])};
      case 23: return new long[] {x.see(a[0], a[1]), m.see(a[0], a[1])};
      case 24: return new long[] {x.fits(a[0], a[1], a[2]), m.fits(a[0], a[1], a[2])};
      case 25: return new long[] {x.lots(a[0], a[1], a[2]), m.lots(a[0], a[1], a[2])};
      case 26: return new long[] {x.feed(a[0]), m.feed(a[0])};
      case 27: return new long[] {x.read(), m.read()};
      case 28: return new long[] {x.write(a[0]), m.write(a[0])};
      case 29: return new long[] {x.paper(a[0]), m.paper(a[0])};
      case 30: return new long[] {x.back(), m.back()};
      case 31: return new long[] {x.list(a[0], a[1]), m.list(a[0], a[1])};
      case 32: return new long[] {x.put(a[0], a[1], v), m.put(a[0], a[1], v)};
      case 33: return new long[] {x.get(a[0], a[1]), m.get(a[0], a[1])};
      case 34: return new long[] {x.copy(a[0], a[1], a[2], a[3], a[4]), m.copy(a[0], a[1], a[2], a[3], a[4])};
      case 35: return new long[] {x.image(), m.image()};
      case 36: return new long[] {x.restore(), m.restore()};
      default: return new long[] {x.count(a[0]), m.count(a[0])};
    }
  }

  static final int[] WILD = {Integer.MIN_VALUE, Integer.MAX_VALUE, -1, -2, 0, 1, 7, 13, 20, 21, 31, 32, 80, 100, 128, 8191, 8192, 1 << 30};

  static int someBits() {
    if (draw(8) == 0) return draw(9000);
    int n = between(2, 6), bits = 0;
    for (int i = 0; i < n; i++) bits |= 1 << draw(draw(2) == 0 ? 13 : 7);
    return bits;
  }

  static int someExp(Model m, int sum) {
    if (m.noSum(sum) || draw(6) == 0) return between(-1, 13);
    List<Integer> l = m.expsOf(sum);
    return l.get(draw(l.size()));
  }

  /** Mostly numbers that may be refused just now and then. */
  static int[] arguments(Model m, int c) {
    int sum = between(draw(12) == 0 ? -1 : 0, Math.max(0, m.held.sums.size() - (draw(12) == 0 ? 0 : 1)));
    int support = between(draw(12) == 0 ? -1 : 0, Math.max(0, m.held.supports.size() - (draw(12) == 0 ? 0 : 1)));
    int x = draw(10) == 0 ? between(-1, 32) : between(0, m.p() - 1);
    int figure = draw(12) == 0 ? between(-2, 11) : draw(10), kind = draw(12) == 0 ? between(-1, 6) : draw(6);
    int[] a = {sum, x, between(-1, 3), 0, 0};
    switch (c) {
      case 0: a[0] = draw(8) == 0 ? between(-1, 9) : draw(3) == 0 ? draw(9) : draw(4); break;
      case 1: a[0] = someBits(); break;
      case 2: a[0] = support; a[1] = between(-1, 7); break;
      case 3: a[0] = support; a[1] = between(-1, 4); a[2] = between(-1, 13); break;
      case 4: a[0] = support; a[1] = kind; a[2] = figure; break;
      case 5: a[1] = someExp(m, sum); a[2] = draw(9) == 0 ? between(-1, 100) : draw(2) == 0 ? draw(m.p()) : draw(100); break;
      case 6: a[1] = kind; a[2] = figure; break;
      case 7: a[1] = between(-1, 7); break;
      case 8: a[1] = someExp(m, sum); a[2] = between(-1, 2); break;
      case 10: a[1] = draw(3) == 0 ? between(-1, 14) : draw(4); break;
      case 11: a[1] = between(-1, 23); a[2] = draw(2) == 0 ? between(-1, 23) : a[1] + between(-2, 2); break;
      case 13: a[0] = support; a[2] = draw(12) == 0 ? between(-1, 4) : draw(4); break;
      case 15: a[2] = draw(6) == 0 ? between(-1, 4) : draw(2); break;
      case 17: a[0] = between(-1, 3); a[1] = between(-1, 2); break;
      case 20: a[0] = support; a[1] = draw(9) == 0 ? between(-1, 2) : draw(2); break;
      case 22: a[1] = draw(7) == 0 ? between(0, 22) : between(2, 20); a[2] = draw(9) == 0 ? between(-1, 2) : draw(2); break;
      case 23: a[0] = draw(4) == 0 ? between(-2, 32) : draw(8); a[1] = draw(6) == 0 ? between(-2, 32) : draw(3); break;
      case 24: a[1] = someExp(m, sum); a[2] = draw(9) == 0 ? between(-1, 2) : draw(2); break;
      case 25: a[1] = draw(6) == 0 ? between(-1, 42) : between(1, 40); a[2] = (int) (seed >> 20); break;
      case 26: a[0] = draw(3) == 0 ? between(-2, 130) : "0123;;;abcpsn".charAt(draw(13)); break;
      case 29: a[0] = between(-1, draw(2) == 0 ? 40 : m.paper.length()); break;
      case 31: a[0] = between(-1, 4); a[1] = draw(5) == 0 ? between(-1, 22) : draw(9); break;
      case 32: case 33: a[0] = between(draw(9) == 0 ? -1 : 0, draw(9) == 0 ? 4 : 3); a[1] = draw(5) == 0 ? between(-1, 21) : draw(5); break;
      case 34: a = new int[] {between(draw(9) == 0 ? -1 : 0, 3), between(-1, 4), between(0, draw(9) == 0 ? 4 : 3), between(-1, 4), between(-1, 5)}; break;
      case 37: a[0] = between(-1, 8); break;
      default: break;
    }
    if (draw(40) == 0) a[draw(a.length)] = WILD[draw(WILD.length)];
    return a;
  }

  static long someLong() {
    switch (draw(5)) {
      case 0: return seed;
      case 1: return draw(2) == 0 ? Long.MIN_VALUE : Long.MAX_VALUE;
      default: return between(-40, 40);
    }
  }

  static String someText() {
    StringBuilder b = new StringBuilder();
    int clauses = between(1, draw(4) == 0 ? 11 : 7);
    for (int i = 0; i < clauses; i++) {
      if (i > 0) b.append(';');
      int k = draw(4);
      if (k == 0) b.append('p').append(draw(10));
      if (k == 1) {
        b.append('a');
        for (int n = between(2, draw(9) == 0 ? 7 : 6); n > 0; n--) b.append("0123456789abc".charAt(draw(13)));
      }
      if (k == 2) b.append('s').append(draw(3)).append(draw(7)).append(draw(10));
      if (k == 3) b.append('n').append(draw(3)).append("0123456789abc".charAt(draw(13))).append(draw(10)).append(draw(10));
    }
    if (draw(4) == 0) b.setCharAt(draw(b.length()), "0a;p sndz".charAt(draw(9)));
    if (draw(6) == 0) b.setLength(draw(b.length()));
    return b.length() > 80 ? b.substring(0, 80) : b.toString();
  }

  static int wrong = 0, calls = 0;
  static List<String> run = new ArrayList<>();

  static void call(DoubleRootSums x, Model m, int c, int[] a, long v) {
    long[] r = both(x, m, c, a, v);
    calls++;
    run.add(CALLED[c] + Arrays.toString(a) + (c == 32 ? " " + v : "") + " = " + r[0]);
    if (r[1] < 0) refused[c]++; else answered[c]++;
    if (r[0] != r[1] && ++wrong <= 20) {
      System.out.println("answered " + r[0] + ", due is " + r[1] + "; the run's last calls: " + run.subList(Math.max(0, run.size() - 12), run.size()));
    }
  }

  /** More steps than can be taken back, and back again. */
  static void manySteps(DoubleRootSums x, Model m) {
    int[] kinds = {0, 5, 5, 5, 6};
    for (int i = 0; i < 14; i++) {
      int c = kinds[draw(kinds.length)];
      call(x, m, c, arguments(m, c), 0);
    }
    for (int i = between(3, 9); i > 0; i--) {
      call(x, m, 30, new int[5], 0);
      call(x, m, 28, arguments(m, 28), 0);
    }
  }

  static void oneRun() {
    DoubleRootSums x = new DoubleRootSums();
    Model m = new Model();
    run.clear();
    int begin = calls;
    while (calls - begin < CALLS - 140) {
      int c = draw(CALLED.length);
      boolean brings = c == 4 || c == 13 || c == 18 || c == 19 || c == 1;
      // Else all rooms would soon be full.
      if (brings && m.held.sums.size() > 3 && draw(3) != 0 || c == 36 && draw(3) != 0) continue;
      if (draw(40) == 0) {
        for (char letter : someText().toCharArray()) call(x, m, 26, new int[] {letter, 0, 0, 0, 0}, 0);
        call(x, m, 27, new int[5], 0);
        continue;
      }
      if (c == 29 && draw(2) == 0) call(x, m, 28, arguments(m, 28), 0);
      if (c == 17 && draw(2) == 0) call(x, m, 16, arguments(m, 16), 0);
      if (draw(200) == 0) manySteps(x, m);
      call(x, m, c, arguments(m, c), someLong());
    }
    for (int what = 0; what < 8; what++) call(x, m, 37, new int[] {what, 0, 0, 0, 0}, 0);
  }

  public static void main(String[] args) {
    for (int i = 0; i < RUNS; i++) oneRun();
    for (int c = 0; c < CALLED.length; c++) {
      boolean neverRefuses = c == 35;
      if (answered[c] < 200 || refused[c] < 20 && !neverRefuses) {
        wrong++;
        System.out.println(CALLED[c] + " was called too seldom: " + answered[c] + " answered, " + refused[c] + " refused");
      }
    }
    System.out.println(wrong == 0 ? calls + " calls answer as the model" : wrong + " wrong");
    if (wrong != 0) System.exit(1);
  }
}
