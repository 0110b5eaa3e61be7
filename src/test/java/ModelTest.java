import java.util.ArrayDeque;
import java.util.ArrayList;
import java.util.HashSet;
import java.util.List;
import java.util.Random;
import java.util.Set;
import java.util.TreeSet;
import java.util.regex.Matcher;
import java.util.regex.Pattern;

/**
 * Runs of calls, chosen by fixed seeds, and all short texts, each answered by the class and by a
 * slow model that goes by the document's words.
 */
public final class ModelTest {
  private static final int RUNS = 1500;
  private static final int STEPS = 250;
  /** What a game answers behind its 512th call is free, and a step makes fewer than 80 calls. */
  private static final int CALLS = 512 - 80;

  private static int wrong = 0;
  private static int calls = 0;

  public static void main(String[] args) {
    for (int run = 0; run < RUNS && wrong < 20; run++) {
      randomRun(run);
    }
    for (int seed = 0; seed < 400 && wrong < 20; seed++) {
      againstAllWays(new Random(seed));
    }
    shortTexts();
    System.out.println(wrong == 0 ? "the class answers as the model" : wrong + " answers differ");
    if (wrong != 0) {
      System.exit(1);
    }
  }

  private static void due(String call, Object want, Object got) {
    if (!want.equals(got)) {
      wrong++;
      System.out.println(call + " answered " + got + ", due is " + want);
    }
  }

  // ---- the model

  private static final class Refused extends RuntimeException {
    private static final long serialVersionUID = 1;
    private final Class<?> kind;

    Refused(Class<?> kind) {
      this.kind = kind;
    }
  }

  private static void demand(boolean holds, Class<?> otherwise) {
    if (!holds) {
      throw new Refused(otherwise);
    }
  }

  private static final Class<?> ARGUMENT = IllegalArgumentException.class;
  private static final Class<?> STATE = IllegalStateException.class;
  private static final Class<?> INDEX = IndexOutOfBoundsException.class;

  private static final class Model {
    List<Boolean> breakers = new ArrayList<>();
    List<int[]> clauses = new ArrayList<>();
    TreeSet<Integer> learned = new TreeSet<>();
    int rounds = 0;
    ArrayDeque<Model> saved = new ArrayDeque<>();
    String text = "";

    void save() {
      Model copy = new Model();
      copy.take(this);
      saved.addLast(copy);
      if (saved.size() > 4) {
        saved.removeFirst();
      }
    }

    void take(Model other) {
      breakers = new ArrayList<>(other.breakers);
      clauses = new ArrayList<>(other.clauses);
      learned = new TreeSet<>(other.learned);
      rounds = other.rounds;
    }

    int count(boolean breaker) {
      int count = 0;
      for (boolean one : breakers) {
        count += one == breaker ? 1 : 0;
      }
      return count;
    }

    int plays() {
      int plays = 1;
      for (int i = 0; i < count(true); i++) {
        plays *= 2;
      }
      return plays;
    }

    Set<Integer> set(int bits) {
      Set<Integer> set = new TreeSet<>();
      for (int i = 0; i < 31; i++) {
        if ((bits >> i) % 2 == 1) {
          set.add(i);
        }
      }
      return set;
    }

    boolean isSet(int bits, int size) {
      return bits >= 0 && (bits == 0 || 31 - Integer.numberOfLeadingZeros(bits) < size);
    }

    boolean formula(List<Integer> values) {
      for (int[] clause : clauses) {
        boolean isTrue = false;
        for (int v : set(clause[0])) {
          isTrue |= values.get(v) == 1;
        }
        for (int v : set(clause[1])) {
          isTrue |= values.get(v) == 0;
        }
        if (!isTrue) {
          return false;
        }
      }
      return true;
    }

    List<Integer> list(int bits, int size) {
      List<Integer> list = new ArrayList<>();
      for (int i = 0; i < size; i++) {
        list.add((bits >> i) % 2);
      }
      return list;
    }

    List<Integer> with(List<Integer> history, int value) {
      List<Integer> longer = new ArrayList<>(history);
      longer.add(value);
      return longer;
    }

    int breakersBefore(int variable) {
      int before = 0;
      for (int v = 0; v < variable; v++) {
        before += breakers.get(v) ? 1 : 0;
      }
      return before;
    }

    int choice(int play, int variable) {
      return (play >> breakersBefore(variable)) % 2;
    }

    int winner(List<Integer> history) {
      if (history.size() == breakers.size()) {
        return formula(history) ? 0 : 1;
      }
      int mover = breakers.get(history.size()) ? 1 : 0;
      boolean wins = winner(with(history, 0)) == mover || winner(with(history, 1)) == mover;
      return wins ? mover : 1 - mover;
    }

    boolean beats(List<Integer> history, Set<Integer> fitting) {
      if (fitting.isEmpty()) {
        return true;
      }
      int variable = history.size();
      if (variable == breakers.size()) {
        return formula(history);
      }
      if (!breakers.get(variable)) {
        return beats(with(history, 0), fitting) || beats(with(history, 1), fitting);
      }
      return beats(with(history, 0), fitting(fitting, variable, 0))
          && beats(with(history, 1), fitting(fitting, variable, 1));
    }

    Set<Integer> fitting(Set<Integer> plays, int variable, int value) {
      Set<Integer> fitting = new TreeSet<>();
      for (int play : plays) {
        if (choice(play, variable) == value) {
          fitting.add(play);
        }
      }
      return fitting;
    }

    boolean beats(Set<Integer> plays) {
      return beats(new ArrayList<>(), plays);
    }

    List<Integer> answered(int play) {
      List<Integer> history = new ArrayList<>();
      Set<Integer> fitting = learned;
      for (int variable = 0; variable < breakers.size(); variable++) {
        int value;
        if (breakers.get(variable)) {
          value = choice(play, variable);
          fitting = fitting(fitting, variable, value);
        } else if (fitting.isEmpty()) {
          value = 0;
        } else {
          value = beats(with(history, 0), fitting) ? 0 : 1;
        }
        history = with(history, value);
      }
      return history;
    }

    int makeRound() {
      rounds++;
      if (!beats(learned)) {
        return -1;
      }
      for (int play = 0; play < plays(); play++) {
        if (!formula(answered(play))) {
          learned.add(play);
          return play;
        }
      }
      return -2;
    }

    int ways(int play) {
      int ways = 0;
      for (int bits = 0; bits < 1 << breakers.size(); bits++) {
        List<Integer> values = list(bits, breakers.size());
        boolean fits = true;
        for (int v = 0; v < breakers.size(); v++) {
          fits &= !breakers.get(v) || values.get(v) == choice(play, v);
        }
        ways += fits && formula(values) ? 1 : 0;
      }
      return ways;
    }

    int copies() {
      int copies = 0;
      for (int v = 0; v < breakers.size(); v++) {
        Set<List<Integer>> seen = new HashSet<>();
        for (int play : learned) {
          seen.add(list(play, breakersBefore(v)));
        }
        copies += breakers.get(v) ? 0 : seen.size();
      }
      return copies;
    }

    int proof() {
      for (int size = 0; size <= plays(); size++) {
        for (int bits = 0; bits < 1 << plays(); bits++) {
          if (set(bits).size() == size && !beats(set(bits))) {
            return bits;
          }
        }
      }
      return -1;
    }

    int value(int what) {
      int bits = 0;
      for (int play : learned) {
        bits += 1 << play;
      }
      int[] all = {breakers.size(), count(true), clauses.size(), learned.size(), bits, rounds,
          plays()};
      demand(what >= 0 && what < all.length, ARGUMENT);
      return all[what];
    }

    int addVariable(boolean breaker) {
      demand(count(breaker) < (breaker ? 3 : 6), STATE);
      breakers.add(breaker);
      learned.clear();
      return breakers.size() - 1;
    }

    int addClause(int positive, int negative) {
      int variables = breakers.size();
      demand(isSet(positive, variables) && isSet(negative, variables), ARGUMENT);
      demand(clauses.size() < 20, STATE);
      clauses.add(new int[] {positive, negative});
      learned.clear();
      return clauses.size() - 1;
    }

    int learn(int play) {
      demand(play >= 0 && play < plays(), ARGUMENT);
      demand(learned.add(play), STATE);
      return learned.size();
    }

    long digest() {
      List<Integer> values = new ArrayList<>();
      values.add(text.length());
      for (int what = 0; what <= 6; what++) {
        values.add(value(what));
      }
      for (boolean breaker : breakers) {
        values.add(breaker ? 1 : 0);
      }
      for (int[] clause : clauses) {
        values.add(clause[0]);
        values.add(clause[1]);
        values.add((clause[0] & clause[1]) == 0 ? 0 : 1);
      }
      values.add(winner(new ArrayList<>()));
      values.add(copies());
      values.add(proof());
      values.add(saved.size());
      long h = 3823;
      for (long v : values) {
        h = 31 * h + v;
      }
      return h;
    }

    int carryOut() {
      int error = syntaxError(text);
      if (error >= 0) {
        return -10 - error;
      }
      save();
      int carriedOut = 0;
      for (String order : text.isEmpty() ? new String[0] : text.split(";")) {
        try {
          obey(order);
        } catch (Refused refused) {
          break;
        }
        carriedOut++;
      }
      return carriedOut;
    }

    void obey(String order) {
      String rest = order.substring(1);
      if (order.equals("e") || order.equals("u")) {
        addVariable(order.equals("u"));
      } else if (order.equals("r")) {
        makeRound();
      } else if (order.startsWith("l")) {
        learn(Integer.parseInt(rest));
      } else {
        int positive = 0;
        int negative = 0;
        Matcher literal = Pattern.compile("(-?)([a-i])").matcher(rest);
        while (literal.find()) {
          int bit = 1 << (literal.group(2).charAt(0) - 'a');
          positive |= literal.group(1).isEmpty() ? bit : 0;
          negative |= literal.group(1).isEmpty() ? 0 : bit;
        }
        addClause(positive, negative);
      }
    }
  }

  private static final String ORDERS = "(?:(?:[eur]|c(?:-?[a-i])*|l[0-9]{1,2});)*";
  private static final Pattern WHOLE = Pattern.compile(ORDERS);
  private static final Pattern BEGUN =
      Pattern.compile(ORDERS + "(?:|[eur]|c(?:-?[a-i])*-?|l[0-9]{0,2})");
  private static final Pattern TOO_HIGH =
      Pattern.compile(ORDERS + "l(0[89]|[89]|[1-9][0-9])(?=[^0-9]|$)", Pattern.DOTALL);

  /** The first byte behind a text that could go on, unless a number is out of range before. */
  private static int syntaxError(String text) {
    Matcher number = TOO_HIGH.matcher(text);
    // The orders before the number go as far as they can, so shorter texts are tried first.
    for (int end = 0; end <= text.length(); end++) {
      String begun = text.substring(0, end);
      if (!BEGUN.matcher(begun).matches()) {
        int high = highNumber(number, text, end - 1);
        return high >= 0 ? high : end - 1;
      }
    }
    int high = highNumber(number, text, text.length());
    if (high >= 0) {
      return high;
    }
    return WHOLE.matcher(text).matches() ? -1 : text.length();
  }

  /** The first number that is out of range and that ends at the place or before it. */
  private static int highNumber(Matcher number, String text, int place) {
    for (int end = 0; end <= place; end++) {
      String begun = text.substring(0, Math.min(text.length(), end + 1));
      number.reset(begun);
      if (number.lookingAt() && number.end() == end) {
        return number.start(1);
      }
    }
    return -1;
  }

  // ---- runs

  private interface Call {
    Object made();
  }

  private static Object outcome(Call call) {
    try {
      return call.made();
    } catch (Refused e) {
      return e.kind;
    } catch (RuntimeException e) {
      return e.getClass();
    }
  }

  private static void both(String name, Call model, Call real) {
    calls++;
    due(name, outcome(model), outcome(real));
  }

  private static void randomRun(int seed) {
    Random random = new Random(seed);
    Model model = new Model();
    ForAllGame game = new ForAllGame();
    int faults = wrong;
    calls = 0;
    for (int step = 0; step < STEPS && calls < CALLS && wrong == faults; step++) {
      String name = "seed " + seed + ", step " + step;
      int kind = random.nextInt(100);
      if (kind < 45) {
        change(name, random, model, game);
      } else if (kind < 90) {
        ask(name, random, model, game);
      } else {
        writeText(name, random, model, game);
      }
      if (random.nextInt(25) == 0) {
        both(name + ", digest", model::digest, game::digest);
      }
    }
  }

  private static Object saving(Model model, Call call) {
    Model before = new Model();
    before.take(model);
    Object answer = call.made();
    model.saved.addLast(before);
    if (model.saved.size() > 4) {
      model.saved.removeFirst();
    }
    return answer;
  }

  private static void change(String at, Random random, Model m, ForAllGame g) {
    int[] a = {wild(random, 9), wild(random, 9)};
    boolean breaker = random.nextInt(5) < 2;
    int kind = random.nextInt(40);
    if (kind < 8) {
      both(at + ", addVariable(" + breaker + ")", () -> saving(m, () -> m.addVariable(breaker)),
          () -> g.addVariable(breaker));
    } else if (kind < 16) {
      int positive = clauseSet(random, m);
      int negative = clauseSet(random, m);
      both(at + ", addClause(" + positive + ", " + negative + ")",
          () -> saving(m, () -> m.addClause(positive, negative)),
          () -> g.addClause(positive, negative));
    } else if (kind < 19) {
      int clause = wild(random, Math.max(1, m.clauses.size()));
      both(at + ", removeClause(" + clause + ")", () -> saving(m, () -> {
        demand(clause >= 0 && clause < m.clauses.size(), INDEX);
        m.clauses.remove(clause);
        m.learned.clear();
        return m.clauses.size();
      }), () -> g.removeClause(clause));
    } else if (kind < 24) {
      int play = wild(random, m.plays());
      both(at + ", learn(" + play + ")", () -> saving(m, () -> m.learn(play)),
          () -> g.learn(play));
    } else if (kind < 25) {
      both(at + ", forget()", () -> saving(m, () -> {
        int before = m.learned.size();
        m.learned.clear();
        return before;
      }), g::forget);
    } else if (kind < 32) {
      both(at + ", round()", () -> saving(m, m::makeRound), g::round);
    } else if (kind < 34) {
      both(at + ", learnAll()", () -> saving(m, () -> {
        int before = m.learned.size();
        while (m.makeRound() >= 0) {
          continue;
        }
        return m.learned.size() - before;
      }), g::learnAll);
    } else if (kind < 35 && random.nextInt(4) == 0) {
      both(at + ", begin()", () -> saving(m, () -> {
        int before = m.breakers.size();
        m.take(new Model());
        return before;
      }), g::begin);
    } else if (kind >= 35) {
      both(at + ", undo()", () -> {
        demand(!m.saved.isEmpty(), STATE);
        m.take(m.saved.removeLast());
        return m.saved.size();
      }, g::undo);
    }
  }

  private static int clauseSet(Random random, Model m) {
    if (random.nextInt(12) == 0) {
      return wild(random, 1 << m.breakers.size());
    }
    int all = (1 << m.breakers.size()) - 1;
    return random.nextInt(512) & random.nextInt(512) & all;
  }

  /** Mostly a number below the end, at times one beside it or far off. */
  private static int wild(Random random, int end) {
    switch (random.nextInt(14)) {
      case 0:
        return -1;
      case 1:
        return end;
      case 2:
        return random.nextInt();
      default:
        return random.nextInt(end);
    }
  }

  private static void ask(String at, Random random, Model m, ForAllGame g) {
    int variables = m.breakers.size();
    int v = wild(random, Math.max(1, variables));
    int history = wild(random, v > 0 && v < 9 ? 1 << v : 1);
    int play = wild(random, m.plays());
    int what = wild(random, 7);
    switch (random.nextInt(14)) {
      case 0 -> both(at + ", isBreakers(" + v + ")", () -> {
        demand(v >= 0 && v < variables, INDEX);
        return m.breakers.get(v);
      }, () -> g.isBreakers(v));
      case 1 -> {
        int c = wild(random, Math.max(1, m.clauses.size()));
        int part = wild(random, 3);
        both(at + ", clause(" + c + ", " + part + ")", () -> {
          demand(c >= 0 && c < m.clauses.size(), INDEX);
          demand(part >= 0 && part <= 2, ARGUMENT);
          int[] clause = m.clauses.get(c);
          return part < 2 ? clause[part] : (clause[0] & clause[1]) != 0 ? 1 : 0;
        }, () -> g.clause(c, part));
      }
      case 2 -> {
        int values = wild(random, 1 << variables);
        both(at + ", isTrue(" + values + ")", () -> {
          demand(m.isSet(values, variables), ARGUMENT);
          return m.formula(m.list(values, variables));
        }, () -> g.isTrue(values));
      }
      case 3 -> both(at + ", value(" + what + ")", () -> m.value(what), () -> g.value(what));
      case 4 -> both(at + ", winner()", () -> m.winner(new ArrayList<>()), g::winner);
      case 5 -> both(at + ", winnerAt(" + v + ", " + history + ")", () -> {
        demandPosition(m, v, history);
        return m.winner(m.list(history, v));
      }, () -> g.winnerAt(v, history));
      case 6 -> both(at + ", move(" + v + ", " + history + ")", () -> {
        demandPosition(m, v, history);
        int mover = m.breakers.get(v) ? 1 : 0;
        for (int value = 0; value <= 1; value++) {
          if (m.winner(m.with(m.list(history, v), value)) == mover) {
            return value;
          }
        }
        return -1;
      }, () -> g.move(v, history));
      case 7 -> both(at + ", ways(" + play + ")", () -> {
        demand(play >= 0 && play < m.plays(), ARGUMENT);
        return m.ways(play);
      }, () -> g.ways(play));
      case 8 -> {
        int plays = wild(random, 1 << m.plays());
        both(at + ", beats(" + plays + ")", () -> {
          demand(m.isSet(plays, m.plays()), ARGUMENT);
          return m.beats(m.set(plays));
        }, () -> g.beats(plays));
      }
      case 9, 10 -> both(at + ", answer(" + v + ", " + play + ")", () -> {
        demand(v >= 0 && v < variables, INDEX);
        demand(!m.breakers.get(v) && play >= 0 && play < m.plays(), ARGUMENT);
        return m.beats(m.learned) ? m.answered(play).get(v) : -1;
      }, () -> g.answer(v, play));
      case 11 -> both(at + ", copies()", m::copies, g::copies);
      case 12 -> both(at + ", hope()", () -> {
        int hopeful = 0;
        for (int one = 0; one < m.plays(); one++) {
          hopeful += m.ways(one) > 0 ? 1 : 0;
        }
        return (double) hopeful / (double) m.plays();
      }, g::hope);
      default -> {
        if (random.nextInt(4) == 0) {
          both(at + ", proof()", m::proof, g::proof);
          both(at + ", leastProof()",
              () -> m.proof() < 0 ? -1 : m.set(m.proof()).size(), g::leastProof);
        }
      }
    }
  }

  private static void demandPosition(Model m, int v, int history) {
    demand(v >= 0 && v < m.breakers.size(), INDEX);
    demand(m.isSet(history, v), ARGUMENT);
  }

  private static void writeText(String at, Random random, Model m, ForAllGame g) {
    if (random.nextInt(2) == 0) {
      both(at + ", clearText()", () -> {
        int length = m.text.length();
        m.text = "";
        return length;
      }, g::clearText);
    }
    StringBuilder text = new StringBuilder();
    int orders = random.nextInt(6);
    for (int i = 0; i < orders; i++) {
      text.append(order(random));
    }
    if (random.nextInt(6) == 0 && text.length() > 0) {
      String signs = "euclrabij-;0789 ";
      text.setCharAt(random.nextInt(text.length()), signs.charAt(random.nextInt(16)));
    }
    for (int i = 0; i < text.length(); i++) {
      int sign = text.charAt(i);
      both(at + ", append(" + sign + ")", () -> {
        demand(m.text.length() < 100, STATE);
        m.text += (char) sign;
        return m.text.length();
      }, () -> g.append(sign));
    }
    both(at + ", carryOut() of " + m.text, m::carryOut, g::carryOut);
  }

  private static String order(Random random) {
    switch (random.nextInt(12)) {
      case 0, 1, 2:
        return "e;";
      case 3, 4:
        return "u;";
      case 5, 6, 7:
        StringBuilder clause = new StringBuilder("c");
        for (int i = random.nextInt(4); i > 0; i--) {
          clause.append(random.nextBoolean() ? "-" : "");
          clause.append((char) ('a' + random.nextInt(random.nextInt(4) == 0 ? 9 : 4)));
        }
        return clause.append(';').toString();
      case 8:
        return "l" + random.nextInt(8) + ";";
      case 9:
        return "l0" + random.nextInt(4) + ";";
      default:
        return "r;";
    }
  }

  // ---- every way of the builder

  /**
   * The builder's ways written out: a way tells for each variable of the builder a value for each
   * beginning of the breaker's play, as all ways that the answers can take do.
   */
  private static void againstAllWays(Random random) {
    Model m = new Model();
    ForAllGame g = new ForAllGame();
    int variables = 1 + random.nextInt(4);
    for (int v = 0; v < variables; v++) {
      boolean breaker = m.count(true) < 3 && random.nextInt(2) == 0;
      m.addVariable(breaker);
      g.addVariable(breaker);
    }
    for (int c = random.nextInt(7); c > 0; c--) {
      int positive = random.nextInt(1 << variables);
      int negative = random.nextInt(1 << variables) & ~positive;
      m.addClause(positive, negative);
      g.addClause(positive, negative);
    }
    int slots = 0;
    int[] first = new int[variables];
    for (int v = 0; v < variables; v++) {
      first[v] = slots;
      slots += m.breakers.get(v) ? 0 : 1 << m.breakersBefore(v);
    }
    boolean[] beaten = new boolean[1 << m.plays()];
    for (int way = 0; way < 1 << slots; way++) {
      int good = 0;
      for (int play = 0; play < m.plays(); play++) {
        good |= m.formula(played(m, first, way, play)) ? 1 << play : 0;
      }
      for (int plays = 0; plays < beaten.length; plays++) {
        beaten[plays] |= (plays & ~good) == 0;
      }
    }
    for (int plays = 0; plays < beaten.length; plays++) {
      due("beats(" + plays + ") of " + m.breakers, beaten[plays], g.beats(plays));
    }
    due("winner() of " + m.breakers, beaten[beaten.length - 1] ? 0 : 1, g.winner());
  }

  private static List<Integer> played(Model m, int[] first, int way, int play) {
    List<Integer> values = new ArrayList<>();
    for (int v = 0; v < m.breakers.size(); v++) {
      int beginning = play & ((1 << m.breakersBefore(v)) - 1);
      values.add(m.breakers.get(v) ? m.choice(play, v) : (way >> (first[v] + beginning)) & 1);
    }
    return values;
  }

  // ---- every short text

  private static void shortTexts() {
    String signs = "ecl-aj;801";
    for (int length = 0; length <= 5; length++) {
      int texts = (int) Math.pow(signs.length(), length);
      for (int number = 0; number < texts && wrong < 20; number++) {
        StringBuilder text = new StringBuilder();
        for (int rest = number, i = 0; i < length; i++, rest /= signs.length()) {
          text.append(signs.charAt(rest % signs.length()));
        }
        Model m = new Model();
        m.text = text.toString();
        ForAllGame g = new ForAllGame();
        for (int i = 0; i < length; i++) {
          g.append(text.charAt(i));
        }
        due("carryOut() of " + text, m.carryOut(), g.carryOut());
      }
    }
  }
}
