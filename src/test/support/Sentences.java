import java.util.ArrayList;
import java.util.List;

/**
 * What the tests of single sentences share: the games that they are made with, what is due, and
 * how it is seen that a call has changed nothing, or has saved just one state.
 *
 * <p>A game is used for at most 512 calls, so all that is asked of one here stays far below.
 */
final class Sentences {
  interface Test {
    void run();
  }

  interface Making {
    ForAllGame made();
  }

  interface Call {
    Object on(ForAllGame game);
  }

  static final Class<?> ARGUMENT = IllegalArgumentException.class;
  static final Class<?> STATE = IllegalStateException.class;
  static final Class<?> INDEX = IndexOutOfBoundsException.class;

  private static int sentences = 0;
  private static int wrong = 0;
  private static String part = "";
  private static String words = "";

  private Sentences() {
  }

  // ---- what is due

  static void part(String name) {
    part = name;
  }

  /** Runs the test of one sentence; that test alone tells whether the sentence holds. */
  static void sentence(String sentence, Test test) {
    sentences++;
    words = sentence;
    try {
      test.run();
    } catch (RuntimeException e) {
      fault("stopped by " + e);
    }
  }

  static void due(Object want, Object got) {
    if (!want.equals(got)) {
      fault("answered " + got + ", due is " + want);
    }
  }

  /** The answers of value(), from value(0) on. */
  static void values(ForAllGame game, int... want) {
    for (int what = 0; what < want.length; what++) {
      if (game.value(what) != want[what]) {
        fault("value(" + what + ") answered " + game.value(what) + ", due is " + want[what]);
      }
    }
  }

  private static void fault(String what) {
    wrong++;
    if (wrong <= 40) {
      System.out.println(part + ", \"" + words + "\", " + lineOfTest() + ": " + what);
    }
  }

  private static String lineOfTest() {
    for (StackTraceElement frame : Thread.currentThread().getStackTrace()) {
      boolean isOfTest = frame.getClassName().endsWith("Test");
      if (isOfTest) {
        return frame.getFileName() + ":" + frame.getLineNumber();
      }
    }
    return "no line";
  }

  static void end() {
    System.out.println(sentences + " sentences, "
        + (wrong == 0 ? "all hold" : wrong + " answers are not as due"));
    if (wrong != 0) {
      System.exit(1);
    }
  }

  // ---- games

  /** A game with variables, e the builder's and u the breaker's, and clauses as in texts. */
  static ForAllGame game(String owners, String... clauses) {
    ForAllGame game = new ForAllGame();
    for (char owner : owners.toCharArray()) {
      game.addVariable(owner == 'u');
    }
    for (String literals : clauses) {
      addClause(game, literals);
    }
    return game;
  }

  static int addClause(ForAllGame game, String literals) {
    int positive = 0;
    int negative = 0;
    for (int i = 0; i < literals.length(); i++) {
      if (literals.charAt(i) == '-') {
        i++;
        negative |= 1 << (literals.charAt(i) - 'a');
      } else {
        positive |= 1 << (literals.charAt(i) - 'a');
      }
    }
    return game.addClause(positive, negative);
  }

  /** The same game for every number of clauses, which are told apart by their numbers. */
  static ForAllGame numberedClauses(int clauses) {
    ForAllGame game = game("eueue");
    for (int clause = 0; clause < clauses; clause++) {
      game.addClause(clause + 1, 31 - clause);
    }
    return game;
  }

  /**
   * A game with so many saved states, 1 to 4, each of them another. Its builder has b, its
   * breaker a, one of both must be 1; the play 0 is learned if there are more states than one.
   */
  static ForAllGame saved(int states) {
    ForAllGame game = new ForAllGame();
    carryOut(game, "u;e;cab;");
    game.clearText();
    for (int round = 1; round < states; round++) {
      game.round();
    }
    return game;
  }

  static void write(ForAllGame game, String text) {
    for (char letter : text.toCharArray()) {
      game.append(letter);
    }
  }

  static int carryOut(ForAllGame game, String text) {
    game.clearText();
    write(game, text);
    return game.carryOut();
  }

  /** The nine owners of each full game: all orders of six e and three u. */
  static List<String> fullOrders() {
    List<String> orders = new ArrayList<>();
    for (int breakers = 0; breakers < 512; breakers++) {
      if (Integer.bitCount(breakers) == 3) {
        StringBuilder order = new StringBuilder();
        for (int variable = 0; variable < 9; variable++) {
          order.append((breakers >> variable) % 2 == 1 ? 'u' : 'e');
        }
        orders.add(order.toString());
      }
    }
    return orders;
  }

  // ---- what a call changes

  /** The call answers, or throws, what is due, and all is as if it had not been made. */
  static void unchanged(Object want, Making making, Call call) {
    ForAllGame game = making.made();
    due(want, outcome(game, call));
    List<Object> got = everything(game);
    List<Object> due = everything(making.made());
    if (!got.equals(due)) {
      fault("has changed " + due + " to " + got);
    }
  }

  /** Any of several calls, each on a game of its own, is refused and changes nothing. */
  static void refused(Object want, Making making, Call... calls) {
    for (Call call : calls) {
      unchanged(want, making, call);
    }
  }

  /** The call saves one state, that from before it, and drops the oldest if there are 4. */
  static void saves(Making making, Call call) {
    ForAllGame game = making.made();
    call.on(game);
    List<Object> before = states(making.made());
    List<Object> behind = states(game);
    List<Object> want = before.subList(0, Math.min(4, before.size()));
    List<Object> got = behind.subList(1, behind.size());
    if (!got.equals(want)) {
      fault("the saved states are " + got + ", due are " + want);
    }
  }

  static Object outcome(ForAllGame game, Call call) {
    try {
      return call.on(game);
    } catch (RuntimeException e) {
      return e.getClass();
    }
  }

  /** How often undo() can be called. */
  static int undos(ForAllGame game) {
    int undos = 0;
    while (undos < 9 && !STATE.equals(outcome(game, ForAllGame::undo))) {
      undos++;
    }
    return undos;
  }

  /** All that can be asked of a game: what it is now, what was saved, and its text. */
  private static List<Object> everything(ForAllGame game) {
    List<Object> all = new ArrayList<>(answers(game));
    all.add(game.digest());
    all.addAll(states(game));
    all.add(game.carryOut());
    all.add(game.digest());
    all.add(game.clearText());
    return all;
  }

  /** What the game is now, without its text and its saved states. */
  static List<Object> answers(ForAllGame game) {
    List<Object> all = new ArrayList<>();
    for (int what = 0; what <= 6; what++) {
      all.add(game.value(what));
    }
    int clauses = game.value(2);
    for (int clause = 0; clause < clauses; clause++) {
      all.add(game.clause(clause, 0));
      all.add(game.clause(clause, 1));
    }
    int variables = game.value(0);
    for (int variable = 0; variable < variables; variable++) {
      int last = (1 << variable) - 1;
      all.add(game.isBreakers(variable));
      all.add(game.winnerAt(variable, 0));
      all.add(game.move(variable, last));
    }
    int plays = game.value(6);
    for (int play = 0; play < plays; play++) {
      addAnswersToPlay(game, variables, play, all);
    }
    all.add(List.of(game.winner(), game.copies(), game.leastProof(), game.proof(), game.hope()));
    return all;
  }

  private static void addAnswersToPlay(
      ForAllGame game, int variables, int play, List<Object> all) {
    all.add(game.ways(play));
    all.add(game.beats(1 << play));
    for (int variable = 0; variable < variables; variable++) {
      if (!game.isBreakers(variable)) {
        all.add(game.answer(variable, play));
      }
    }
  }

  /** The states, newest first, that undo() brings back, behind the one that is now. */
  private static List<Object> states(ForAllGame game) {
    List<List<Object>> seen = new ArrayList<>();
    List<Long> digests = new ArrayList<>();
    Object left;
    do {
      seen.add(List.of(game.value(0), game.value(2), game.value(4), game.value(5)));
      digests.add(game.digest());
      left = outcome(game, ForAllGame::undo);
    } while (left instanceof Integer && seen.size() < 9);
    List<Object> states = new ArrayList<>();
    for (int i = 0; i < seen.size(); i++) {
      // The number of saved states, which the digest ends with, is no part of a saved state.
      long digest = digests.get(i) - (seen.size() - 1 - i);
      states.add(List.of(seen.get(i), digest));
    }
    return states;
  }
}
