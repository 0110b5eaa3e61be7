import java.math.BigInteger;
import java.util.ArrayList;
import java.util.Arrays;
import java.util.Collections;
import java.util.List;

/**
 * The sentences of the promises 1 to 28 one by one, each with a test of its own: at the boundary
 * that it names, one step before it and one step behind it; a refused call changes nothing.
 */
public final class EdgesTest {
  private static final Class<?> ARGUMENT = Sentences.ARGUMENT;
  private static final Class<?> STATE = Sentences.STATE;
  private static final Class<?> INDEX = Sentences.INDEX;

  /** All nine variables in an order that mixes the players. */
  private static final String FULL = "eueueueee";

  /** Numbers that are no set of few variables, no index, and nothing that can be asked. */
  private static final int[] FAR = {-1, -2, -8, -512, Integer.MIN_VALUE, Integer.MIN_VALUE + 1,
      Integer.MAX_VALUE, 1 << 30, 1 << 16, 1 << 10, 1 << 30 | 1, Integer.MIN_VALUE | 1};

  /** Worked out by another program. */
  private static final long NEW_DIGEST = 4415538408969746385L;
  private static final long OVERFLOWN = 5845360565784198357L;

  public static void main(String[] args) {
    newObject();
    begin();
    addVariable();
    addClause();
    removeClause();
    learn();
    forget();
    round();
    learnAll();
    isBreakers();
    clause();
    isTrue();
    value();
    winner();
    winnerAt();
    move();
    ways();
    beats();
    answer();
    copies();
    leastProof();
    proof();
    hope();
    append();
    clearText();
    carryOut();
    undo();
    digest();
    Sentences.end();
  }

  private static void promise(String name) {
    Sentences.part("Promise " + name);
  }

  private static void sentence(String words, Sentences.Test test) {
    Sentences.sentence(words, test);
  }

  private static void due(Object want, Object got) {
    Sentences.due(want, got);
  }

  private static ForAllGame game(String owners, String... clauses) {
    return Sentences.game(owners, clauses);
  }

  private static ForAllGame learned(ForAllGame game, int... plays) {
    for (int play : plays) {
      game.learn(play);
    }
    return game;
  }

  private static ForAllGame written(String text) {
    ForAllGame game = new ForAllGame();
    Sentences.write(game, text);
    return game;
  }

  /** Numbers that are below 0, just behind the last one, and far behind it. */
  private static List<Integer> beside(int last) {
    List<Integer> beside = new ArrayList<>(List.of(last + 1, last + 2, -1 - last));
    for (int far : FAR) {
      beside.add(far);
    }
    beside.removeIf(number -> number >= 0 && number <= last);
    return beside;
  }

  private interface Given {
    Object on(ForAllGame game, int number);
  }

  /** The call with each number beside those from 0 to the last one is refused. */
  private static void refusedBeside(
      Class<?> want, Sentences.Making making, int last, Given call) {
    for (int number : beside(last)) {
      Sentences.unchanged(want, making, game -> call.on(game, number));
    }
  }

  /** The call saves a state, whether none, some or 4 of them are saved before. */
  private static void undoable(Sentences.Call call) {
    for (int states = 1; states <= 4; states++) {
      int saved = states;
      Sentences.saves(() -> Sentences.saved(saved), call);
    }
  }

  // ---- promise 1

  private static void newObject() {
    promise("1: A new object");
    sentence("Creates a game without variables and clauses", EdgesTest::isEmpty);
    sentence("a new object: nothing of another one is in it", EdgesTest::isApart);
  }

  private static void isEmpty() {
    ForAllGame game = new ForAllGame();
    Sentences.values(game, 0, 0, 0, 0, 0, 0, 1);
    due(0, game.clearText());
    due(0, Sentences.undos(game));
    refusedBeside(INDEX, ForAllGame::new, -1, ForAllGame::isBreakers);
    refusedBeside(INDEX, ForAllGame::new, -1, (g, clause) -> g.clause(clause, 0));
    Sentences.refused(INDEX, ForAllGame::new, g -> g.isBreakers(0), g -> g.clause(0, 0));
    due(0, game.addVariable(true));
    due(0, game.addClause(0, 1));
  }

  private static void isApart() {
    ForAllGame other = learned(game(FULL, "a", "-b"), 0, 7);
    other.round();
    other.append('e');
    isEmpty();
    Sentences.values(other, 9, 3, 2, 2, 129, 1, 8);
  }

  // ---- promise 2

  private static void begin() {
    promise("2: begin");
    sentence("Begins anew: all .. is as at first", EdgesTest::beginsAnew);
    sentence("but the text", EdgesTest::beginKeepsText);
    sentence("and the saved states", EdgesTest::beginKeepsSaved);
    sentence("Undoable", () -> undoable(ForAllGame::begin));
    sentence("Returns the variables that there were", EdgesTest::beginReturns);
  }

  private static void beginsAnew() {
    List<Object> first = Sentences.answers(new ForAllGame());
    for (ForAllGame game : List.of(new ForAllGame(), game("", ""), game("e"), game("u", "a"),
        learned(game(FULL, "a", "-a", "b-i"), 0, 3, 7), Sentences.numberedClauses(20))) {
      game.round();
      game.begin();
      Sentences.values(game, 0, 0, 0, 0, 0, 0, 1);
      due(first, Sentences.answers(game));
      due(0, game.addClause(0, 0));
      due(0, game.addVariable(false));
    }
  }

  private static void beginKeepsText() {
    ForAllGame game = written("e;u");
    game.begin();
    due(4, game.append(';'));
    due(2, game.carryOut());
    game.begin();
    due(2, game.carryOut());
    due(4, game.clearText());
    ForAllGame full = written("r;".repeat(50));
    full.begin();
    due(STATE, Sentences.outcome(full, g -> g.append('r')));
    due(100, full.clearText());
  }

  private static void beginKeepsSaved() {
    ForAllGame game = Sentences.saved(3);
    game.begin();
    due(3, game.undo());
    due(2, game.value(5));
    due(2, game.undo());
    due(1, game.value(5));
  }

  private static void beginReturns() {
    for (int variables = 0; variables <= 9; variables++) {
      ForAllGame game = game(FULL.substring(0, variables));
      due(variables, game.begin());
      due(0, game.begin());
    }
  }

  // ---- promise 3

  private static void addVariable() {
    promise("3: addVariable");
    sentence("Adds a variable, behind all others", EdgesTest::addsBehind);
    sentence("breaker: whether it belongs to the breaker, otherwise to the builder",
        EdgesTest::addsOwner);
    sentence("Undoable", EdgesTest::addVariableUndoable);
    sentence("Returns its number", EdgesTest::addVariableReturns);
    sentence("Throws IllegalStateException if the breaker has 3 variables and gets one more",
        EdgesTest::fourthOfBreaker);
    sentence("or the builder has 6 and gets one more", EdgesTest::seventhOfBuilder);
  }

  private static void addsBehind() {
    ForAllGame game = game("eu", "a-b", "-ab");
    due(1, game.winner());
    game.addVariable(false);
    due(List.of(false, true, false),
        List.of(game.isBreakers(0), game.isBreakers(1), game.isBreakers(2)));
    due(List.of(1, 2), List.of(game.clause(0, 0), game.clause(0, 1)));
    due(1, game.winner());
    due(2, game.addClause(4, 0));
    due(1, game.move(2, 3));
  }

  private static void addsOwner() {
    ForAllGame game = new ForAllGame();
    game.addVariable(true);
    game.addVariable(false);
    due(true, game.isBreakers(0));
    due(false, game.isBreakers(1));
    Sentences.values(game, 2, 1, 0, 0, 0, 0, 2);
  }

  private static void addVariableUndoable() {
    undoable(g -> g.addVariable(true));
    undoable(g -> g.addVariable(false));
    Sentences.saves(() -> game(FULL.substring(0, 8)), g -> g.addVariable(false));
  }

  private static void addVariableReturns() {
    for (String owners : List.of("eeeeeeuuu", "uuueeeeee", FULL, "ueeueeuee")) {
      ForAllGame game = new ForAllGame();
      for (int variable = 0; variable < 9; variable++) {
        due(variable, game.addVariable(owners.charAt(variable) == 'u'));
      }
    }
  }

  private static void fourthOfBreaker() {
    for (int builders = 0; builders <= 6; builders++) {
      String others = "eeeeee".substring(0, builders);
      due(builders + 2, game(others + "uu").addVariable(true));
      due(builders + 2, game("uu" + others).addVariable(true));
      Sentences.refused(STATE, () -> game(others + "uuu"), g -> g.addVariable(true));
      Sentences.refused(STATE, () -> game("uuu" + others), g -> g.addVariable(true));
    }
  }

  private static void seventhOfBuilder() {
    for (int breakers = 0; breakers <= 3; breakers++) {
      String others = "uuu".substring(0, breakers);
      due(breakers + 5, game(others + "eeeee").addVariable(false));
      due(breakers + 5, game("eeeee" + others).addVariable(false));
      Sentences.refused(STATE, () -> game(others + "eeeeee"), g -> g.addVariable(false));
      Sentences.refused(STATE, () -> game("eeeeee" + others), g -> g.addVariable(false));
    }
  }

  // ---- promise 4

  private static void addClause() {
    promise("4: addClause");
    sentence("Adds a clause", EdgesTest::addsClause);
    sentence("Undoable", EdgesTest::addClauseUndoable);
    sentence("Returns its number", EdgesTest::addClauseReturns);
    sentence("Throws IllegalArgumentException if a set is negative", EdgesTest::negativeSet);
    sentence("or has a variable that there is not", EdgesTest::setWithoutVariable);
    sentence("Throws IllegalStateException if there are 20 clauses", EdgesTest::clause21);
  }

  private static void addsClause() {
    ForAllGame game = game(FULL);
    int[][] sets = {{0, 0}, {1, 0}, {0, 256}, {511, 511}, {5, 10}};
    for (int[] set : sets) {
      game.addClause(set[0], set[1]);
    }
    due(5, game.value(2));
    for (int clause = 0; clause < sets.length; clause++) {
      due(sets[clause][0], game.clause(clause, 0));
      due(sets[clause][1], game.clause(clause, 1));
    }
    due(1, game.winner());
  }

  private static void addClauseUndoable() {
    undoable(g -> g.addClause(3, 3));
    undoable(g -> g.addClause(0, 0));
    Sentences.saves(() -> Sentences.numberedClauses(19), g -> g.addClause(1, 2));
  }

  private static void addClauseReturns() {
    for (int clauses = 0; clauses < 20; clauses++) {
      due(clauses, Sentences.numberedClauses(clauses).addClause(1, 2));
    }
  }

  private static void negativeSet() {
    for (int negative : new int[] {-1, -2, -512, Integer.MIN_VALUE, Integer.MIN_VALUE | 1}) {
      for (String owners : List.of("", "ue", FULL)) {
        Sentences.refused(ARGUMENT, () -> game(owners), g -> g.addClause(negative, 0),
            g -> g.addClause(0, negative), g -> g.addClause(negative, negative));
      }
    }
  }

  private static void setWithoutVariable() {
    for (int variables = 0; variables <= 9; variables++) {
      String owners = FULL.substring(0, variables);
      int last = (1 << variables) - 1;
      ForAllGame game = game(owners);
      due(0, game.addClause(last, last));
      due(1, game.addClause(0, last));
      due(2, game.addClause(last, 0));
      refusedBeside(ARGUMENT, () -> game(owners), last, (g, set) -> g.addClause(set, 0));
      refusedBeside(ARGUMENT, () -> game(owners), last, (g, set) -> g.addClause(last, set));
    }
  }

  private static void clause21() {
    due(19, Sentences.numberedClauses(19).addClause(1, 2));
    Sentences.refused(STATE, () -> Sentences.numberedClauses(20), g -> g.addClause(1, 2),
        g -> g.addClause(0, 0));
    Sentences.refused(ARGUMENT, () -> Sentences.numberedClauses(20), g -> g.addClause(32, 2));
    Sentences.refused(STATE, () -> game("", empties(20)), g -> g.addClause(0, 0));
    due(19, game("", empties(19)).addClause(0, 0));
  }

  private static String[] empties(int clauses) {
    String[] empties = new String[clauses];
    Arrays.fill(empties, "");
    return empties;
  }

  // ---- promise 5

  private static void removeClause() {
    promise("5: removeClause");
    sentence("Removes a clause", EdgesTest::removesClause);
    sentence("Undoable", EdgesTest::removeClauseUndoable);
    sentence("Returns the clauses that are left", EdgesTest::removeClauseReturns);
    sentence("Throws IndexOutOfBoundsException if there is no such clause",
        EdgesTest::removeNoClause);
  }

  private static void removesClause() {
    ForAllGame game = game("e", "a", "-a", "a-a");
    due(1, game.winner());
    game.removeClause(1);
    due(0, game.winner());
    due(List.of(1, 0, 1, 1), List.of(game.clause(0, 0), game.clause(0, 1), game.clause(1, 0),
        game.clause(1, 1)));
    game.removeClause(0);
    due(true, game.isTrue(0));
    game.removeClause(0);
    due(0, game.value(2));
  }

  private static void removeClauseUndoable() {
    undoable(g -> g.removeClause(0));
    for (int clause : new int[] {0, 1, 18, 19}) {
      Sentences.saves(() -> Sentences.numberedClauses(20), g -> g.removeClause(clause));
    }
    Sentences.saves(() -> learned(game("ue", "ab"), 0, 1), g -> g.removeClause(0));
  }

  private static void removeClauseReturns() {
    ForAllGame game = Sentences.numberedClauses(20);
    for (int left = 19; left >= 0; left--) {
      due(left, game.removeClause(left / 2));
      due(left, game.value(2));
    }
  }

  private static void removeNoClause() {
    for (int clauses : new int[] {0, 1, 2, 19, 20}) {
      refusedBeside(INDEX, () -> Sentences.numberedClauses(clauses), clauses - 1,
          ForAllGame::removeClause);
      if (clauses > 0) {
        due(clauses - 1, Sentences.numberedClauses(clauses).removeClause(clauses - 1));
        due(clauses - 1, Sentences.numberedClauses(clauses).removeClause(0));
      }
    }
  }

  // ---- promise 6

  private static void learn() {
    promise("6: learn");
    sentence("Learns a play", EdgesTest::learnsPlay);
    sentence("Undoable", EdgesTest::learnUndoable);
    sentence("Returns the plays that are learned then", EdgesTest::learnReturns);
    sentence("Throws IllegalArgumentException if there is no such play",
        EdgesTest::learnNoPlay);
    sentence("Throws IllegalStateException if it is learned already", EdgesTest::learnTwice);
  }

  private static void learnsPlay() {
    for (int play = 0; play <= 7; play++) {
      ForAllGame game = game("uuue", "d");
      game.learn(play);
      due(1, game.value(3));
      due(1 << play, game.value(4));
      due(0, game.value(5));
      due(1, game.answer(3, play));
      due(0, game.answer(3, 7 - play));
    }
  }

  private static void learnUndoable() {
    undoable(g -> g.learn(1));
    Sentences.saves(() -> learned(game("uuu"), 1, 2, 3, 4, 5, 6), g -> g.learn(0));
    Sentences.saves(() -> learned(game("uuu"), 0, 1, 2, 3, 4, 5, 6), g -> g.learn(7));
  }

  private static void learnReturns() {
    List<Integer> plays = new ArrayList<>(List.of(0, 1, 2, 3, 4, 5, 6, 7));
    for (int turn = 0; turn < 8; turn++) {
      ForAllGame game = game("uuu", "");
      for (int i = 0; i < 8; i++) {
        due(i + 1, game.learn(plays.get(i)));
      }
      due(255, game.value(4));
      Collections.rotate(plays, 3);
    }
  }

  private static void learnNoPlay() {
    for (int b = 0; b <= 3; b++) {
      String owners = "euueu".substring(0, b < 3 ? b + 1 : 5);
      int plays = 1 << b;
      due(1, game(owners).learn(0));
      due(1, game(owners).learn(plays - 1));
      refusedBeside(ARGUMENT, () -> game(owners), plays - 1, ForAllGame::learn);
    }
  }

  private static void learnTwice() {
    for (int play = 0; play <= 7; play++) {
      int twice = play;
      Sentences.refused(STATE, () -> learned(game("uuu"), twice), g -> g.learn(twice));
      ForAllGame all = learned(game("uuu"), 0, 1, 2, 3, 4, 5, 6, 7);
      due(STATE, Sentences.outcome(all, g -> g.learn(twice)));
      all.forget();
      due(1, all.learn(twice));
    }
    Sentences.refused(STATE, () -> {
      ForAllGame game = game("ue", "b");
      game.round();
      return game;
    }, g -> g.learn(0));
    Sentences.refused(STATE, () -> learned(new ForAllGame(), 0), g -> g.learn(0));
  }

  // ---- promise 7

  private static void forget() {
    promise("7: forget");
    sentence("Forgets all learned plays", EdgesTest::forgetsAll);
    sentence("Undoable", EdgesTest::forgetUndoable);
    sentence("Returns the plays that were learned", EdgesTest::forgetReturns);
  }

  private static void forgetsAll() {
    ForAllGame game = game("uuue", "d");
    due(8, game.learnAll());
    game.forget();
    Sentences.values(game, 4, 3, 1, 0, 0, 9, 8);
    due(0, game.copies());
    due(0, game.answer(3, 7));
    due(0, game.round());
  }

  private static void forgetUndoable() {
    undoable(ForAllGame::forget);
    Sentences.saves(() -> learned(game("uuu"), 0, 7), ForAllGame::forget);
    Sentences.saves(ForAllGame::new, ForAllGame::forget);
  }

  private static void forgetReturns() {
    for (int plays = 0; plays <= 8; plays++) {
      ForAllGame game = game("uuu");
      for (int play = 0; play < plays; play++) {
        game.learn(7 - play);
      }
      due(plays, game.forget());
      due(0, game.forget());
    }
  }

  // ---- promise 8

  private static void round() {
    promise("8: round");
    sentence("Makes a round of learning", EdgesTest::makesRound);
    sentence("Undoable", EdgesTest::roundUndoable);
    sentence("Returns the play that is learned", EdgesTest::roundReturnsPlay);
    sentence("-1 .. as told", EdgesTest::roundReturnsLost);
    sentence("or -2 as told", EdgesTest::roundReturnsWon);
  }

  private static void makesRound() {
    ForAllGame game = game("eueu", "ab", "-a-b", "cd");
    for (int round = 1; round <= 4; round++) {
      game.round();
      due(round, game.value(5));
    }
    // a must be unlike b, which is behind it: the plays 0 and 1 are enough.
    Sentences.values(game, 4, 2, 3, 2, 3, 4, 4);
  }

  private static void roundUndoable() {
    undoable(ForAllGame::round);
    Sentences.saves(() -> learned(game("u", "a"), 0), ForAllGame::round);
    Sentences.saves(() -> game("uuue", "d"), ForAllGame::round);
    Sentences.saves(ForAllGame::new, ForAllGame::round);
  }

  private static void roundReturnsPlay() {
    for (int play = 0; play <= 7; play++) {
      ForAllGame game = game("uuue");
      game.addClause(8 | (7 & ~play), play);
      due(play, game.round());
      due(1 << play, game.value(4));
      due(-2, game.round());
    }
  }

  private static void roundReturnsLost() {
    for (int play = 0; play <= 7; play++) {
      ForAllGame game = game("uuue");
      game.addClause(7 & ~play, play);
      due(play, game.round());
      due(-1, game.round());
      due(-1, game.round());
      due(1 << play, game.value(4));
    }
    due(-1, learned(game("", ""), 0).round());
  }

  private static void roundReturnsWon() {
    due(-2, new ForAllGame().round());
    due(-2, game("uuu").round());
    due(-2, learned(game("uuu"), 0, 1, 2, 3, 4, 5, 6, 7).round());
    due(-2, learned(game("e", "a"), 0).round());
    due(0, game("e", "a").round());
    due(-2, game("e", "-a").round());
  }

  // ---- promise 9

  private static void learnAll() {
    promise("9: learnAll");
    sentence("Makes rounds of learning until one ends with -1", EdgesTest::learnsUntilLost);
    sentence("or -2", EdgesTest::learnsUntilWon);
    sentence("Undoable", EdgesTest::learnAllUndoable);
    sentence("Returns the plays that are learned by it", EdgesTest::learnAllReturns);
  }

  /** The builder tells one of eight numbers and loses if the breaker tells its target. */
  private static ForAllGame targets(int... targets) {
    ForAllGame game = game("eeeuuu");
    for (int told = 0; told < targets.length; told++) {
      int wrong = told | targets[told] << 3;
      if (targets[told] >= 0) {
        game.addClause(63 & ~wrong, wrong);
      }
    }
    return game;
  }

  private static void learnsUntilLost() {
    ForAllGame game = targets(0, 1, 2, 3, 4, 5, 6, 7);
    due(8, game.learnAll());
    Sentences.values(game, 6, 3, 8, 8, 255, 9, 8);
    due(-1, game.round());
    ForAllGame early = targets(6, 6, 6, 6, 6, 6, 6, 6);
    due(1, early.learnAll());
    Sentences.values(early, 6, 3, 8, 1, 64, 2, 8);
    due(-1, early.round());
    ForAllGame none = learned(game("", ""), 0);
    due(0, none.learnAll());
    due(1, none.value(5));
  }

  private static void learnsUntilWon() {
    ForAllGame game = game("uuue", "d");
    due(8, game.learnAll());
    Sentences.values(game, 4, 3, 1, 8, 255, 9, 8);
    due(-2, game.round());
    ForAllGame none = new ForAllGame();
    due(0, none.learnAll());
    Sentences.values(none, 0, 0, 0, 0, 0, 1, 1);
    ForAllGame one = game("uuue", "-a-b-cd");
    due(1, one.learnAll());
    Sentences.values(one, 4, 3, 1, 1, 128, 2, 8);
  }

  private static void learnAllUndoable() {
    undoable(ForAllGame::learnAll);
    Sentences.saves(() -> game("uuue", "d"), ForAllGame::learnAll);
    Sentences.saves(ForAllGame::new, ForAllGame::learnAll);
  }

  private static void learnAllReturns() {
    for (int before = 0; before <= 8; before++) {
      ForAllGame game = game("uuue", "d");
      for (int play = 0; play < before; play++) {
        game.learn(7 - play);
      }
      due(8 - before, game.learnAll());
      due(8, game.value(3));
      due(9 - before, game.value(5));
      due(0, game.learnAll());
      due(10 - before, game.value(5));
    }
  }

  // ---- promise 10

  private static void isBreakers() {
    promise("10: isBreakers");
    sentence("Returns whether it belongs to the breaker", EdgesTest::isBreakersReturns);
    sentence("Throws IndexOutOfBoundsException if there is no such variable",
        EdgesTest::isBreakersThrows);
  }

  private static void isBreakersReturns() {
    for (String owners : Sentences.fullOrders()) {
      ForAllGame game = game(owners);
      for (int variable = 0; variable < 9; variable++) {
        due(owners.charAt(variable) == 'u', game.isBreakers(variable));
      }
    }
  }

  private static void isBreakersThrows() {
    for (int variables = 0; variables <= 9; variables++) {
      String owners = FULL.substring(0, variables);
      refusedBeside(INDEX, () -> game(owners), variables - 1, ForAllGame::isBreakers);
    }
  }

  // ---- promise 11

  private static void clause() {
    promise("11: clause");
    sentence("what: 0 its positive variables", () -> clausePart(0));
    sentence("1 its negative variables", () -> clausePart(1));
    sentence("2 1 if it is always true (a variable is in both), otherwise 0",
        EdgesTest::clauseAlwaysTrue);
    sentence("Throws IndexOutOfBoundsException if there is no such clause",
        EdgesTest::clauseThrowsIndex);
    sentence("Throws IllegalArgumentException if what is out of range",
        EdgesTest::clauseThrowsArgument);
  }

  private static void clausePart(int what) {
    for (int set = 0; set < 512; set += 7) {
      ForAllGame game = game(FULL);
      game.addClause(what == 0 ? set : 511 - set, what == 0 ? 511 - set : set);
      due(set, game.clause(0, what));
    }
    ForAllGame twenty = Sentences.numberedClauses(20);
    for (int clause = 0; clause < 20; clause++) {
      due(what == 0 ? clause + 1 : 31 - clause, twenty.clause(clause, what));
    }
  }

  private static void clauseAlwaysTrue() {
    for (int positive = 0; positive < 8; positive++) {
      ForAllGame game = game("eue");
      for (int negative = 0; negative < 8; negative++) {
        game.addClause(positive, negative);
        boolean always = false;
        for (int variable = 0; variable < 3; variable++) {
          always |= (positive >> variable) % 2 == 1 && (negative >> variable) % 2 == 1;
        }
        due(always ? 1 : 0, game.clause(negative, 2));
      }
    }
  }

  private static void clauseThrowsIndex() {
    for (int clauses : new int[] {0, 1, 2, 19, 20}) {
      for (int what = -1; what <= 3; what++) {
        int asked = what;
        refusedBeside(INDEX, () -> Sentences.numberedClauses(clauses), clauses - 1,
            (g, clause) -> g.clause(clause, asked));
      }
    }
  }

  private static void clauseThrowsArgument() {
    for (int clause : new int[] {0, 19}) {
      refusedBeside(ARGUMENT, () -> Sentences.numberedClauses(20), 2,
          (g, what) -> g.clause(clause, what));
    }
  }

  // ---- promise 12

  private static void isTrue() {
    promise("12: isTrue");
    sentence("values: the values of all variables, bit v for the variable v",
        EdgesTest::isTrueReturns);
    sentence("Throws IllegalArgumentException if values is negative or has a bit for a variable"
        + " that there is not", EdgesTest::isTrueThrows);
  }

  private static void isTrueReturns() {
    for (int good = 0; good < 16; good++) {
      ForAllGame game = game("ueue");
      for (int variable = 0; variable < 4; variable++) {
        int bit = 1 << variable;
        game.addClause(good & bit, bit & ~good);
      }
      for (int values = 0; values < 16; values++) {
        due(values == good, game.isTrue(values));
      }
    }
    due(true, game("").isTrue(0));
    due(false, game("", "").isTrue(0));
    due(true, game(FULL, "i").isTrue(256));
    due(false, game(FULL, "i").isTrue(255));
  }

  private static void isTrueThrows() {
    for (int variables = 0; variables <= 9; variables++) {
      String owners = FULL.substring(0, variables);
      int last = (1 << variables) - 1;
      due(true, game(owners).isTrue(last));
      refusedBeside(ARGUMENT, () -> game(owners), last, ForAllGame::isTrue);
    }
  }

  // ---- promise 13

  private static void value() {
    promise("13: value");
    sentence("what: 0 the variables", () -> valueOfVariables());
    sentence("1 those of the breaker", () -> valueOfBreakers());
    sentence("2 the clauses", () -> valueOfClauses());
    sentence("3 the learned plays", () -> valueOfLearned(3));
    sentence("4 the learned plays as a set (bit p for the play p)", () -> valueOfLearned(4));
    sentence("5 the rounds of learning so far", () -> valueOfRounds());
    sentence("those of learnAll() and those that ended with -1 or -2 too",
        () -> valueOfAllRounds());
    sentence("6 all plays", () -> valueOfPlays());
    sentence("Throws IllegalArgumentException if what is out of range", () -> valueThrows());
  }

  private static void valueOfVariables() {
    for (int variables = 0; variables <= 9; variables++) {
      due(variables, game(FULL.substring(0, variables)).value(0));
    }
  }

  private static void valueOfBreakers() {
    for (int breakers = 0; breakers <= 3; breakers++) {
      due(breakers, game("uuu".substring(0, breakers)).value(1));
      due(breakers, game("eeeeee" + "uuu".substring(0, breakers)).value(1));
      due(breakers, game("uuu".substring(0, breakers) + "eeeeee").value(1));
    }
  }

  private static void valueOfClauses() {
    for (int clauses = 0; clauses <= 20; clauses++) {
      due(clauses, Sentences.numberedClauses(clauses).value(2));
    }
  }

  private static void valueOfLearned(int what) {
    for (int plays = 0; plays < 256; plays++) {
      ForAllGame game = game("ueuu");
      for (int play = 0; play < 8; play++) {
        if ((plays >> play) % 2 == 1) {
          game.learn(play);
        }
      }
      due(what == 3 ? Integer.bitCount(plays) : plays, game.value(what));
    }
  }

  private static void valueOfRounds() {
    ForAllGame game = game("uuue", "d");
    due(0, game.value(5));
    for (int round = 1; round <= 20; round++) {
      game.round();
      due(round, game.value(5));
    }
    game.learnAll();
    game.forget();
    due(21, game.value(5));
    game.begin();
    due(0, game.value(5));
    game.undo();
    due(21, game.value(5));
    // A play that is learned by learn() is no round.
    game.learn(0);
    due(21, game.value(5));
  }

  private static void valueOfAllRounds() {
    ForAllGame won = game("uuue", "d");
    won.learnAll();
    due(9, won.value(5));
    won.round();
    due(10, won.value(5));
    won.learnAll();
    due(11, won.value(5));
    ForAllGame lost = game("u", "a");
    lost.learnAll();
    due(2, lost.value(5));
    lost.round();
    due(3, lost.value(5));
    lost.learnAll();
    due(4, lost.value(5));
    Sentences.carryOut(lost, "r;r;");
    due(6, lost.value(5));
  }

  private static void valueOfPlays() {
    List<Integer> plays = new ArrayList<>();
    for (int breakers = 0; breakers <= 3; breakers++) {
      plays.add(game("euuu".substring(0, breakers + 1)).value(6));
    }
    due(List.of(1, 2, 4, 8), plays);
    due(1, new ForAllGame().value(6));
    due(8, game(FULL).value(6));
  }

  private static void valueThrows() {
    for (int states = 1; states <= 4; states++) {
      int saved = states;
      refusedBeside(ARGUMENT, () -> Sentences.saved(saved), 6, ForAllGame::value);
    }
    refusedBeside(ARGUMENT, ForAllGame::new, 6, ForAllGame::value);
  }

  // ---- promise 14

  private static void winner() {
    promise("14: winner");
    sentence("Returns 0 if the builder wins", EdgesTest::winnerIsBuilder);
    sentence("1 if the breaker wins", EdgesTest::winnerIsBreaker);
  }

  private static void winnerIsBuilder() {
    due(0, new ForAllGame().winner());
    due(0, game(FULL).winner());
    due(0, game("e", "a").winner());
    due(0, game("u", "a-a").winner());
    due(0, game("ue", "a-b", "-ab").winner());
    due(0, game("uuueeeeee", "a-d", "-ad", "b-e", "-be", "c-f", "-cf").winner());
    due(0, targets(0, 1, 2, 3, 4, 5, 6, -1).winner());
  }

  private static void winnerIsBreaker() {
    due(1, game("", "").winner());
    due(1, game(FULL, "").winner());
    due(1, game("u", "a").winner());
    due(1, game("e", "a", "-a").winner());
    due(1, game("eu", "a-b", "-ab").winner());
    due(1, game("eeeeeeuuu", "f-i", "-fi").winner());
    due(1, targets(0, 1, 2, 3, 4, 5, 6, 7).winner());
    ForAllGame game = game("eu", "ab");
    due(0, game.winner());
    game.addClause(0, 3);
    due(1, game.winner());
    game.removeClause(0);
    due(0, game.winner());
  }

  // ---- promise 15

  private static void winnerAt() {
    promise("15: winnerAt");
    sentence("Returns the winner in a position in which a variable is the next one",
        EdgesTest::winnerAtReturns);
    sentence("history: the values of the variables before it", EdgesTest::winnerAtLast);
    sentence("Throws IndexOutOfBoundsException if there is no such variable",
        () -> throwsWithoutVariable(ForAllGame::winnerAt));
    sentence("Throws IllegalArgumentException if history is negative or has a bit for the"
        + " variable or for one behind it", () -> throwsAtHistory(ForAllGame::winnerAt));
  }

  private interface At {
    int on(ForAllGame game, int variable, int history);
  }

  private static void winnerAtReturns() {
    // The builder's b must be like a, and d like c.
    ForAllGame game = game("ueue", "a-b", "-ab", "c-d", "-cd");
    due(0, game.winnerAt(0, 0));
    due(List.of(0, 0), List.of(game.winnerAt(1, 0), game.winnerAt(1, 1)));
    due(List.of(0, 1, 1, 0), List.of(game.winnerAt(2, 0), game.winnerAt(2, 1),
        game.winnerAt(2, 2), game.winnerAt(2, 3)));
    for (int history = 0; history < 8; history++) {
      due(history % 4 == 0 || history % 4 == 3 ? 0 : 1, game.winnerAt(3, history));
    }
  }

  private static void winnerAtLast() {
    // The last variable of nine, and all those before it must be 1.
    ForAllGame game = game(FULL, "a", "b", "c", "d", "e", "f", "g", "h");
    due(0, game.winnerAt(8, 255));
    for (int variable = 0; variable < 8; variable++) {
      due(1, game.winnerAt(8, 255 - (1 << variable)));
    }
    due(0, game.winnerAt(6, 63));
    due(1, game.winnerAt(5, 31));
    due(1, game.winnerAt(0, 0));
    due(0, game("e").winnerAt(0, 0));
    due(1, game("u", "a").winnerAt(0, 0));
  }

  private static void throwsWithoutVariable(At call) {
    for (int variables = 0; variables <= 9; variables++) {
      String owners = FULL.substring(0, variables);
      for (int history : new int[] {0, 1, -1, Integer.MIN_VALUE, Integer.MAX_VALUE}) {
        refusedBeside(INDEX, () -> game(owners), variables - 1,
            (g, variable) -> call.on(g, variable, history));
      }
    }
  }

  private static void throwsAtHistory(At call) {
    for (int variables = 1; variables <= 9; variables++) {
      String owners = FULL.substring(0, variables);
      for (int variable = 0; variable < variables; variable++) {
        int at = variable;
        int last = (1 << variable) - 1;
        due(true, Sentences.outcome(game(owners), g -> call.on(g, at, last)) instanceof Integer);
        due(true, Sentences.outcome(game(owners), g -> call.on(g, at, 0)) instanceof Integer);
        refusedBeside(ARGUMENT, () -> game(owners), last, (g, history) -> call.on(g, at, history));
        for (int behind = variable; behind < 9; behind++) {
          int bit = 1 << behind;
          Sentences.refused(ARGUMENT, () -> game(owners), g -> call.on(g, at, bit),
              g -> call.on(g, at, bit | last));
        }
      }
    }
  }

  // ---- promise 16

  private static void move() {
    promise("16: move");
    sentence("Finds a move that wins for the player to whom a variable belongs: returns 0 or 1",
        EdgesTest::moveWins);
    sentence("the lower one if both win", EdgesTest::moveLower);
    sentence("NONE if neither does", EdgesTest::moveNone);
    sentence("Throws IndexOutOfBoundsException if there is no such variable",
        () -> throwsWithoutVariable(ForAllGame::move));
    sentence("Throws IllegalArgumentException if history is negative or has a bit for the"
        + " variable or for one behind it", () -> throwsAtHistory(ForAllGame::move));
  }

  private static void moveWins() {
    due(1, game("e", "a").move(0, 0));
    due(0, game("e", "-a").move(0, 0));
    due(0, game("u", "a").move(0, 0));
    due(1, game("u", "-a").move(0, 0));
    ForAllGame game = game(FULL, "h-i", "-hi");
    due(0, game.move(8, 127));
    due(1, game.move(8, 255));
    due(1, game.move(8, 128));
    ForAllGame breakers = game("eu", "ab", "-a-b");
    due(List.of(0, 1), List.of(breakers.move(1, 0), breakers.move(1, 1)));
  }

  private static void moveLower() {
    due(0, game("e").move(0, 0));
    due(0, game("u", "").move(0, 0));
    due(0, game("ee", "ab", "-a-b").move(0, 0));
    due(0, game("uu", "ab", "-a-b").move(0, 0));
    due(0, game("uu", "ab", "-a-b").move(1, 0));
    due(1, game("uu", "ab", "-a-b").move(1, 1));
    due(0, game(FULL).move(8, 255));
  }

  private static void moveNone() {
    due(ForAllGame.NONE, game("u").move(0, 0));
    due(ForAllGame.NONE, game("e", "").move(0, 0));
    due(ForAllGame.NONE, game("eu", "ab", "-a-b").move(0, 0));
    due(ForAllGame.NONE, game("ue", "ab", "-a-b").move(0, 0));
    due(ForAllGame.NONE, game("eue", "a", "bc").move(1, 1));
    due(ForAllGame.NONE, game("eue", "a", "bc").move(2, 0));
    due(-1, game(FULL, "").move(8, 0));
  }

  // ---- promise 17

  private static void ways() {
    promise("17: ways");
    sentence("Returns the number of ways to choose all variables of the builder",
        EdgesTest::waysReturns);
    sentence("for a play of the breaker, if the builder knew it from the beginning",
        EdgesTest::waysKnown);
    sentence("Throws IllegalArgumentException if there is no such play",
        () -> throwsWithoutPlay(ForAllGame::ways));
  }

  private static void waysReturns() {
    for (int builders = 0; builders <= 6; builders++) {
      String owners = "eeeeee".substring(0, builders);
      int all = 1 << builders;
      due(all, game(owners).ways(0));
      due(all, game(owners + "uuu").ways(7));
      due(all, game("uuu" + owners).ways(0));
      due(0, game(owners, "").ways(0));
      if (builders > 0) {
        due(all / 2, game(owners, "a").ways(0));
        due(all - 1, game(owners, "abcdef".substring(0, builders)).ways(0));
      }
    }
    due(1, game("eeeeee", "a", "-b", "c", "-d", "e", "-f").ways(0));
  }

  private static void waysKnown() {
    // a must be like b and like c, which come behind it.
    ForAllGame game = game("euu", "a-b", "-ab", "a-c", "-ac");
    due(List.of(1, 0, 0, 1), List.of(game.ways(0), game.ways(1), game.ways(2), game.ways(3)));
    for (int play = 0; play < 8; play++) {
      ForAllGame some = game("uuueee", "ad", "be", "cf");
      int zeros = 3 - Integer.bitCount(play);
      due(8 >> zeros, some.ways(play));
    }
  }

  private static void throwsWithoutPlay(Given call) {
    for (int b = 0; b <= 3; b++) {
      String owners = "euuu".substring(0, b + 1);
      int last = (1 << b) - 1;
      due(true, Sentences.outcome(game(owners), g -> call.on(g, last)) instanceof Integer);
      due(true, Sentences.outcome(game(owners), g -> call.on(g, 0)) instanceof Integer);
      refusedBeside(ARGUMENT, () -> game(owners), last, call);
    }
  }

  // ---- promise 18

  private static void beats() {
    promise("18: beats");
    sentence("Tells whether the builder beats a set of plays", EdgesTest::beatsReturns);
    sentence("plays: a set of plays, bit p for the play p", EdgesTest::beatsSets);
    sentence("Throws IllegalArgumentException if plays is negative or has a play that there is"
        + " not", EdgesTest::beatsThrows);
  }

  private static void beatsReturns() {
    ForAllGame lost = targets(0, 1, 2, 3, 4, 5, 6, 7);
    ForAllGame won = targets(0, 1, 2, 3, 4, 5, 6, -1);
    for (int plays = 0; plays < 256; plays += 5) {
      due(plays != 255, lost.beats(plays));
      due(true, won.beats(plays));
    }
    due(false, lost.beats(255));
    for (int play = 0; play < 8; play++) {
      due(true, lost.beats(255 - (1 << play)));
    }
  }

  private static void beatsSets() {
    for (int lost = 0; lost < 8; lost++) {
      ForAllGame game = game("uuu");
      game.addClause(7 & ~lost, lost);
      for (int play = 0; play < 8; play++) {
        due(play != lost, game.beats(1 << play));
        due(play == lost, game.beats(255 - (1 << play)));
      }
    }
  }

  private static void beatsThrows() {
    for (int b = 0; b <= 3; b++) {
      String owners = "euuu".substring(0, b + 1);
      int last = (1 << (1 << b)) - 1;
      due(true, game(owners).beats(last));
      due(true, game(owners).beats(0));
      refusedBeside(ARGUMENT, () -> game(owners), last, ForAllGame::beats);
    }
  }

  // ---- promise 19

  private static void answer() {
    promise("19: answer");
    sentence("Returns the value of this variable when the breaker chooses the values of the"
        + " play", EdgesTest::answerReturns);
    sentence("as in a round of learning", EdgesTest::answerAsInRound);
    sentence("NONE if the builder does not beat the learned set", EdgesTest::answerNone);
    sentence("Throws IndexOutOfBoundsException if there is no such variable",
        () -> throwsWithoutVariable((g, variable, play) -> g.answer(variable, play)));
    sentence("Throws IllegalArgumentException if the variable belongs to the breaker",
        EdgesTest::answerOfBreaker);
    sentence("or there is no such play", EdgesTest::answerNoPlay);
  }

  private static void answerReturns() {
    ForAllGame game = learned(game("uuueee", "-ad", "a-d", "b-e", "-be", "cf", "-c-f"),
        0, 1, 2, 3, 4, 5, 6, 7);
    for (int play = 0; play < 8; play++) {
      due(play % 2, game.answer(3, play));
      due((play >> 1) % 2, game.answer(4, play));
      due(1 - (play >> 2), game.answer(5, play));
    }
    due(List.of(0, 0), List.of(game("e").answer(0, 0), game("euuu").answer(0, 7)));
  }

  private static void answerAsInRound() {
    ForAllGame game = game("uuue", "d");
    for (int round = 0; round <= 8; round++) {
      for (int play = 0; play < 8; play++) {
        due(play < round ? 1 : 0, game.answer(3, play));
      }
      due(round < 8 ? round : -2, game.round());
    }
    // The answer is no round: it counts none and learns nothing.
    due(9, game.value(5));
    due(8, game.value(3));
  }

  private static void answerNone() {
    ForAllGame game = targets(0, 1, 2, 3, 4, 5, 6, 7);
    for (int play = 0; play < 8; play++) {
      for (int variable = 0; variable < 3; variable++) {
        due(true, game.answer(variable, 7 - play) >= 0);
      }
      game.learn(play);
    }
    for (int variable = 0; variable < 3; variable++) {
      for (int play = 0; play < 8; play++) {
        due(ForAllGame.NONE, game.answer(variable, play));
      }
    }
    due(0, game("e", "").answer(0, 0));
    due(-1, learned(game("e", ""), 0).answer(0, 0));
  }

  private static void answerOfBreaker() {
    for (String owners : List.of("u", "uuu", FULL, "eeeeeeuuu")) {
      for (int variable = 0; variable < owners.length(); variable++) {
        int asked = variable;
        if (owners.charAt(variable) == 'u') {
          Sentences.refused(ARGUMENT, () -> game(owners), g -> g.answer(asked, 0),
              g -> g.answer(asked, 1), g -> g.answer(asked, 8), g -> g.answer(asked, -1));
          Sentences.refused(ARGUMENT, () -> learned(game(owners, ""), 0),
              g -> g.answer(asked, 0));
        } else {
          due(0, game(owners).answer(variable, 0));
        }
      }
    }
  }

  private static void answerNoPlay() {
    throwsWithoutPlay((g, play) -> g.answer(0, play));
    // Also where the builder does not beat the learned set.
    refusedBeside(ARGUMENT, () -> learned(game("eu", ""), 0), 1, (g, play) -> g.answer(0, play));
  }

  // ---- promise 20

  private static void copies() {
    promise("20: copies");
    sentence("the learned plays that have the same values of all variables of the breaker before"
        + " it share one copy", EdgesTest::copiesShared);
    sentence("Returns the sum of the copies of all variables of the builder",
        EdgesTest::copiesSum);
  }

  private static void copiesShared() {
    for (int before = 0; before <= 3; before++) {
      // One variable of the builder, with so many of the breaker before it.
      String owners = "uuu".substring(0, before) + "e" + "uuu".substring(before);
      for (int plays = 0; plays < 256; plays++) {
        ForAllGame game = game(owners);
        int seen = 0;
        for (int play = 0; play < 8; play++) {
          if ((plays >> play) % 2 == 1) {
            game.learn(play);
            seen |= 1 << play % (1 << before);
          }
        }
        due(Integer.bitCount(seen), game.copies());
      }
    }
  }

  private static void copiesSum() {
    due(0, new ForAllGame().copies());
    due(0, learned(new ForAllGame(), 0).copies());
    due(0, learned(game("uuu"), 0, 7).copies());
    due(0, game(FULL).copies());
    due(6, learned(game("eeeeee"), 0).copies());
    due(6, learned(game("eeeeeeuuu"), 0, 1, 2, 3, 4, 5, 6, 7).copies());
    due(48, learned(game("uuueeeeee"), 0, 1, 2, 3, 4, 5, 6, 7).copies());
    due(1 + 2 + 4 + 3 * 8, learned(game(FULL), 0, 1, 2, 3, 4, 5, 6, 7).copies());
    due(1 + 2 + 2 + 3 * 2, learned(game(FULL), 2, 5).copies());
    due(1 + 1 + 2 + 3 * 2, learned(game(FULL), 5, 7).copies());
    due(1 + 1 + 1 + 3 * 2, learned(game(FULL), 3, 7).copies());
  }

  // ---- promise 21

  private static void leastProof() {
    promise("21: leastProof");
    sentence("Finds the least number of plays that the builder does not beat: returns their"
        + " number", EdgesTest::leastProofReturns);
    sentence("NONE if the builder beats all plays together", EdgesTest::leastProofNone);
  }

  /** Each number below the count loses to its own play, the others lose to the play 0. */
  private static ForAllGame needs(int plays) {
    int[] targets = new int[8];
    for (int told = 0; told < 8; told++) {
      targets[told] = told < plays ? told : 0;
    }
    return targets(targets);
  }

  private static void leastProofReturns() {
    for (int plays = 1; plays <= 8; plays++) {
      due(plays, needs(plays).leastProof());
      // It does not go by what is learned.
      due(plays, learned(needs(plays), 0, 7).leastProof());
    }
    due(1, game("", "").leastProof());
    due(1, game("u", "a").leastProof());
    due(1, game("uuu", "abc").leastProof());
    due(1, game("uuu", "-a-b-c").leastProof());
    due(2, game("eu", "ab", "-a-b").leastProof());
  }

  private static void leastProofNone() {
    due(ForAllGame.NONE, new ForAllGame().leastProof());
    due(ForAllGame.NONE, game(FULL).leastProof());
    due(ForAllGame.NONE, targets(0, 1, 2, 3, 4, 5, 6, -1).leastProof());
    due(ForAllGame.NONE, targets(-1, 1, 2, 3, 4, 5, 6, 7).leastProof());
    due(-1, learned(game("ue", "ab", "-a-b"), 0, 1).leastProof());
  }

  // ---- promise 22

  private static void proof() {
    promise("22: proof");
    sentence("Finds the lowest set of so many plays as leastProof() tells that the builder does"
        + " not beat", EdgesTest::proofReturns);
    sentence("the one with the least number", EdgesTest::proofLowest);
    sentence("NONE if the builder beats all plays together", EdgesTest::proofNone);
  }

  private static void proofReturns() {
    for (int plays = 1; plays <= 8; plays++) {
      due((1 << plays) - 1, needs(plays).proof());
      due((1 << plays) - 1, learned(needs(plays), 0, 7).proof());
    }
    for (int play = 0; play < 8; play++) {
      ForAllGame game = game("uuu");
      game.addClause(7 & ~play, play);
      due(1 << play, game.proof());
    }
    due(192, targets(6, 6, 6, 6, 7, 7, 7, 7).proof());
    due(1, game("", "").proof());
  }

  private static void proofLowest() {
    // Two plays of which each is enough.
    due(4, game("uuu", "a-bc", "-ab-c").proof());
    due(16, game("uuu", "ab-c", "-a-b-c").proof());
    // Two sets of two plays, 0 and 2 as well as 1 and 3; and the second of them alone.
    due(5, game("ueu", "b-c", "-bc").proof());
    due(10, game("ueu", "-ab-c", "-a-bc").proof());
    // One play comes before a lower set of two.
    due(3, game("euuu", "abcd", "-a-bcd").proof());
    ForAllGame fewer = game("euuu", "abcd", "-a-bcd", "-b-c-d");
    due(128, fewer.proof());
    due(1, fewer.leastProof());
  }

  private static void proofNone() {
    due(ForAllGame.NONE, new ForAllGame().proof());
    due(ForAllGame.NONE, game(FULL).proof());
    due(ForAllGame.NONE, targets(0, 1, 2, 3, 4, 5, 6, -1).proof());
    due(-1, learned(game("ue", "ab", "-a-b"), 0, 1).proof());
  }

  // ---- promise 23

  private static void hope() {
    promise("23: hope");
    sentence("Returns their number, converted to double, divided by the number of all plays",
        EdgesTest::hopeReturns);
    sentence("plays for which some choice of the builder's variables makes the formula true",
        EdgesTest::hopeOfSomeChoice);
  }

  private static void hopeReturns() {
    for (int lost = 0; lost <= 8; lost++) {
      ForAllGame game = game("euuu");
      for (int play = 0; play < lost; play++) {
        game.addClause(2 * (7 - play), 2 * play);
      }
      due((8 - lost) * 0.125, game.hope());
    }
    due(1.0, game("").hope());
    due(0.0, game("", "").hope());
    due(List.of(1.0, 0.5, 0.0),
        List.of(game("u").hope(), game("u", "a").hope(), game("u", "").hope()));
    due(List.of(0.75, 0.5, 0.25), List.of(game("uu", "ab").hope(), game("uu", "a").hope(),
        game("uu", "a", "b").hope()));
  }

  private static void hopeOfSomeChoice() {
    // The builder may choose for each play anew, before the breaker too.
    due(1.0, game("eu", "ab", "-a-b").hope());
    due(1.0, game("ue", "ab", "-a-b").hope());
    due(0.0, game("eu", "a", "-a").hope());
    due(0.5, game("eu", "ab", "-ab").hope());
    due(1.0, game("eeeeeeuuu", "a", "-b", "c", "-d", "e", "-f").hope());
    due(1.0, targets(0, 1, 2, 3, 4, 5, 6, 7).hope());
    due(0.875, targets(5, 5, 5, 5, 5, 5, 5, 5).hope());
  }

  // ---- promise 24

  private static void append() {
    promise("24: append");
    sentence("value: the byte, 0 to 127", EdgesTest::appendsBytes);
    sentence("Returns the new length of the text", EdgesTest::appendReturns);
    sentence("Throws IllegalArgumentException if value is out of range",
        EdgesTest::appendThrowsArgument);
    sentence("Throws IllegalStateException if the text has 100 bytes",
        EdgesTest::appendThrowsState);
  }

  private static void appendsBytes() {
    for (int value = 0; value <= 127; value++) {
      ForAllGame game = new ForAllGame();
      due(1, game.append(value));
      boolean isOrder = "ceulr".indexOf(value) >= 0;
      due(isOrder ? -11 : -10, game.carryOut());
    }
  }

  private static void appendReturns() {
    ForAllGame game = new ForAllGame();
    for (int length = 1; length <= 100; length++) {
      due(length, game.append(length));
    }
    game.clearText();
    due(1, game.append(0));
    due(2, game.append(127));
  }

  private static void appendThrowsArgument() {
    for (String text : List.of("", "e", "r;".repeat(49) + "r", "r;".repeat(50))) {
      refusedBeside(ARGUMENT, () -> written(text), 127, ForAllGame::append);
    }
    Sentences.refused(ARGUMENT, () -> Sentences.saved(2), g -> g.append(256 + 'e'),
        g -> g.append('e' - 256), g -> g.append(255));
  }

  private static void appendThrowsState() {
    due(100, written("r;".repeat(49) + "r").append(';'));
    for (int value : new int[] {0, ';', 'r', 127}) {
      Sentences.refused(STATE, () -> written("r;".repeat(50)), g -> g.append(value));
      Sentences.refused(STATE, () -> written("x".repeat(100)), g -> g.append(value));
    }
  }

  // ---- promise 25

  private static void clearText() {
    promise("25: clearText");
    sentence("Empties the text", EdgesTest::clearsText);
    sentence("Returns the length that it had", EdgesTest::clearTextReturns);
  }

  private static void clearsText() {
    ForAllGame game = written("e;x");
    game.clearText();
    due(0, game.carryOut());
    due(0, game.value(0));
    Sentences.write(game, "u;");
    due(1, game.carryOut());
    Sentences.values(game, 1, 1);
    // A shorter text does not end with what is left of a longer one.
    due(-12, Sentences.carryOut(written("cab;e;"), "ca"));
    due(-12, Sentences.carryOut(written("l1;"), "l1"));
    due(-12, Sentences.carryOut(written("l12;"), "l1"));
    due(-11, Sentences.carryOut(written("l9;"), "l"));
    due(-11, Sentences.carryOut(written("e;"), "e"));
  }

  private static void clearTextReturns() {
    for (int length = 0; length <= 100; length++) {
      ForAllGame game = written("x".repeat(length));
      due(length, game.clearText());
      due(0, game.clearText());
      due(1, game.append('x'));
    }
  }

  // ---- promise 26

  private static void carryOut() {
    promise("26: carryOut");
    sentence("Carries out the orders of the text", EdgesTest::carriesOut);
    sentence("up to the first one that would throw an exception (that one is not carried out)",
        EdgesTest::carriesOutUpTo);
    sentence("The text stays as it is", EdgesTest::carryOutKeepsText);
    sentence("Undoable (one saved state, also if no order is carried out)",
        EdgesTest::carryOutUndoable);
    sentence("Undoable .., if there is no syntax error", EdgesTest::carryOutNotUndoable);
    sentence("Returns the number of orders that are carried out", EdgesTest::carryOutReturns);
    sentence("-10 minus the syntax error position if there is a syntax error",
        EdgesTest::carryOutPosition);
    sentence("(then nothing changes)", EdgesTest::carryOutChangesNothing);
  }

  private static void carriesOut() {
    ForAllGame game = new ForAllGame();
    due(10, Sentences.carryOut(game, "u;e;u;cab;c-a-b;c;l03;r;l0;e;"));
    Sentences.values(game, 4, 2, 3, 0, 0, 1, 4);
    due(List.of(true, false, true, false), List.of(game.isBreakers(0), game.isBreakers(1),
        game.isBreakers(2), game.isBreakers(3)));
    due(List.of(3, 0, 0), List.of(game.clause(0, 0), game.clause(1, 0), game.clause(2, 0)));
    due(List.of(0, 3, 0), List.of(game.clause(0, 1), game.clause(1, 1), game.clause(2, 1)));
    due(4, Sentences.carryOut(game, "l3;l01;r;r;"));
    Sentences.values(game, 4, 2, 3, 2, 10, 3, 4);
  }

  /** An order that would throw stands between rounds: one is made, and none behind it. */
  private static void endsAt(String order, ForAllGame game) {
    int rounds = game.value(5);
    List<Integer> before = List.of(game.value(0), game.value(1), game.value(2));
    due(1, Sentences.carryOut(game, "r;" + order + ";r;r;"));
    due(rounds + 1, game.value(5));
    due(before, List.of(game.value(0), game.value(1), game.value(2)));
    due(0, Sentences.carryOut(game, order + ";r;"));
    due(rounds + 1, game.value(5));
    due(0, Sentences.carryOut(game, order + ";" + order + ";"));
  }

  private static void carriesOutUpTo() {
    endsAt("e", game("eeeeee"));
    endsAt("e", game(FULL));
    endsAt("u", game("uuu"));
    endsAt("u", game("uuueeeeee"));
    endsAt("ca", game(""));
    endsAt("c-a", game(""));
    endsAt("cbc", game("eu"));
    endsAt("ca-c", game("eu"));
    endsAt("c-i", game(FULL.substring(0, 8)));
    endsAt("c", Sentences.numberedClauses(20));
    endsAt("ca", Sentences.numberedClauses(20));
    endsAt("l1", game("e"));
    endsAt("l2", game("u"));
    endsAt("l04", game("ueu"));
    endsAt("l7", game("uu"));
    endsAt("l0", learned(game("e"), 0));
    endsAt("l07", learned(game("uuu"), 7));
    due(2, Sentences.carryOut(game("eeeee"), "e;r;e;r;"));
    due(2, Sentences.carryOut(game("uu"), "u;r;u;r;"));
    due(2, Sentences.carryOut(Sentences.numberedClauses(19), "ca;r;c;r;"));
    due(2, Sentences.carryOut(game("u"), "l1;r;l1;r;"));
    due(3, Sentences.carryOut(game("e"), "ca;u;cb;cc;r;"));
  }

  private static void carryOutKeepsText() {
    ForAllGame game = written("e;ca;e");
    due(-16, game.carryOut());
    due(7, game.append(';'));
    due(3, game.carryOut());
    due(3, game.carryOut());
    Sentences.values(game, 4, 0, 2);
    due(8, game.append('e'));
    due(-18, game.carryOut());
    due(8, game.clearText());
    ForAllGame full = written("r;".repeat(50));
    due(50, full.carryOut());
    due(50, full.carryOut());
    due(100, full.clearText());
  }

  private static void carryOutUndoable() {
    for (String text : List.of("", "r;", "e;u;c;", "l0;l1;", "cc;r;", "e;e;e;e;e;e;e;e;")) {
      for (int states = 1; states <= 4; states++) {
        int saved = states;
        Sentences.saves(() -> {
          ForAllGame game = Sentences.saved(saved);
          Sentences.write(game, text);
          return game;
        }, ForAllGame::carryOut);
      }
    }
    ForAllGame game = written("r;".repeat(50));
    game.carryOut();
    due(0, game.undo());
    due(0, game.value(5));
    due(STATE, Sentences.outcome(game, ForAllGame::undo));
  }

  private static void carryOutNotUndoable() {
    for (int states = 1; states <= 4; states++) {
      ForAllGame game = Sentences.saved(states);
      due(-12, Sentences.carryOut(game, "e;x"));
      due(-11, Sentences.carryOut(game, "l8;"));
      due(-11, Sentences.carryOut(game, "e"));
      due(states, Sentences.undos(game));
    }
  }

  private static void carryOutReturns() {
    for (int orders = 0; orders <= 50; orders++) {
      ForAllGame game = written("r;".repeat(orders));
      due(orders, game.carryOut());
      due(orders, game.value(5));
    }
    for (int variables = 0; variables <= 6; variables++) {
      ForAllGame game = game("eeeeee".substring(0, variables));
      due(6 - variables, Sentences.carryOut(game, "e;".repeat(10)));
      due(6, game.value(0));
    }
  }

  private static void carryOutPosition() {
    for (int position = 0; position < 100; position += 2) {
      due(-10 - position, Sentences.carryOut(new ForAllGame(), "r;".repeat(position / 2) + "x"));
      due(-10 - position - 1,
          Sentences.carryOut(new ForAllGame(), "r;".repeat(position / 2) + "r "));
    }
    due(-109, Sentences.carryOut(new ForAllGame(), "r;".repeat(49) + "r"));
    due(-110, Sentences.carryOut(new ForAllGame(), "r;".repeat(49) + "cc"));
    due(-110, Sentences.carryOut(new ForAllGame(), "c" + "a".repeat(99)));
    due(-10, Sentences.carryOut(new ForAllGame(), "x".repeat(100)));
  }

  private static void carryOutChangesNothing() {
    for (String text : List.of("x", "e;u;c;r;x", "e;u;c;r;e", "r;l9;", "r;l000;", "c-;", "r;c-")) {
      for (int states = 1; states <= 4; states++) {
        int saved = states;
        Sentences.Making making = () -> {
          ForAllGame game = Sentences.saved(saved);
          Sentences.write(game, text);
          return game;
        };
        Sentences.unchanged(making.made().carryOut(), making, ForAllGame::carryOut);
        due(true, making.made().carryOut() <= -10);
      }
    }
  }

  // ---- promise 27

  private static void undo() {
    promise("27: undo");
    sentence("Restores the most recently saved state", EdgesTest::undoRestores);
    sentence("and removes it from the saved states", EdgesTest::undoRemoves);
    sentence("Returns the number of saved states that remain", EdgesTest::undoReturns);
    sentence("Throws IllegalStateException if there is no saved state", EdgesTest::undoThrows);
  }

  private static void undoRestores() {
    ForAllGame game = game("ue", "ab");
    List<Object> empty = Sentences.answers(game);
    game.round();
    List<Object> one = Sentences.answers(game);
    game.addClause(0, 0);
    game.undo();
    due(one, Sentences.answers(game));
    game.removeClause(0);
    game.undo();
    due(one, Sentences.answers(game));
    game.undo();
    due(empty, Sentences.answers(game));
    // What the game answers is of the state that came back, not of the one before.
    ForAllGame turned = game("eu", "ab");
    due(0, turned.winner());
    turned.addClause(0, 3);
    due(1, turned.winner());
    turned.undo();
    due(List.of(0, true, -1), List.of(turned.winner(), turned.beats(3), turned.proof()));
  }

  private static void undoRemoves() {
    ForAllGame game = new ForAllGame();
    game.round();
    game.round();
    due(1, game.undo());
    game.forget();
    due(1, game.undo());
    due(1, game.value(5));
    due(0, game.undo());
    due(0, game.value(5));
    due(STATE, Sentences.outcome(game, ForAllGame::undo));
  }

  private static void undoReturns() {
    for (int calls = 1; calls <= 9; calls++) {
      ForAllGame game = new ForAllGame();
      for (int call = 0; call < calls; call++) {
        game.round();
      }
      for (int left = Math.min(4, calls) - 1; left >= 0; left--) {
        due(left, game.undo());
      }
    }
  }

  private static void undoThrows() {
    Sentences.refused(STATE, ForAllGame::new, ForAllGame::undo);
    Sentences.refused(STATE, () -> written("e;ca;"), ForAllGame::undo);
    for (int states = 1; states <= 4; states++) {
      int saved = states;
      Sentences.refused(STATE, () -> {
        ForAllGame game = Sentences.saved(saved);
        for (int left = 0; left < saved; left++) {
          game.undo();
        }
        return game;
      }, ForAllGame::undo);
      due(saved - 1, Sentences.saved(saved).undo());
    }
  }

  // ---- promise 28

  private static void digest() {
    promise("28: digest");
    sentence("Start with h = 3823 and .. set h = 31 * h + v", EdgesTest::digestOfNew);
    sentence("the length of the text", EdgesTest::digestOfText);
    sentence("value() for 0 to 6", EdgesTest::digestOfValues);
    sentence("for each variable 1 if it belongs to the breaker, otherwise 0",
        EdgesTest::digestOfVariables);
    sentence("for each clause the values of clause() for what = 0 to 2",
        EdgesTest::digestOfClauses);
    sentence("winner(); copies(); proof()", EdgesTest::digestOfGame);
    sentence("the number of saved states", EdgesTest::digestOfSaved);
    sentence("with the overflow of long arithmetic ignored", EdgesTest::digestOverflow);
  }

  private static long hash(int... values) {
    BigInteger h = BigInteger.valueOf(3823);
    for (int v : values) {
      h = h.multiply(BigInteger.valueOf(31)).add(BigInteger.valueOf(v));
    }
    return h.longValue();
  }

  /** The digest that is due by what the game answers else. */
  private static long dueDigest(ForAllGame game, int textLength, int saved) {
    List<Integer> values = new ArrayList<>(List.of(textLength));
    for (int what = 0; what <= 6; what++) {
      values.add(game.value(what));
    }
    for (int variable = 0; variable < game.value(0); variable++) {
      values.add(game.isBreakers(variable) ? 1 : 0);
    }
    for (int clause = 0; clause < game.value(2); clause++) {
      values.addAll(List.of(game.clause(clause, 0), game.clause(clause, 1),
          game.clause(clause, 2)));
    }
    values.addAll(List.of(game.winner(), game.copies(), game.proof(), saved));
    return hash(values.stream().mapToInt(value -> value).toArray());
  }

  private static void digestOfNew() {
    due(NEW_DIGEST, new ForAllGame().digest());
    due(hash(0, 0, 0, 0, 0, 0, 0, 1, 0, 0, -1, 0), new ForAllGame().digest());
  }

  private static void digestOfText() {
    for (int length : new int[] {0, 1, 2, 99, 100}) {
      ForAllGame game = written("x".repeat(length));
      due(hash(length, 0, 0, 0, 0, 0, 0, 1, 0, 0, -1, 0), game.digest());
      game.clearText();
      due(NEW_DIGEST, game.digest());
    }
  }

  private static void digestOfValues() {
    ForAllGame game = game("u");
    due(hash(0, 1, 1, 0, 0, 0, 0, 2, 1, 0, 0, -1, 1), game.digest());
    game.learn(1);
    due(hash(0, 1, 1, 0, 1, 2, 0, 2, 1, 0, 0, -1, 2), game.digest());
    game.round();
    due(hash(0, 1, 1, 0, 1, 2, 1, 2, 1, 0, 0, -1, 3), game.digest());
    game.learnAll();
    due(hash(0, 1, 1, 0, 1, 2, 2, 2, 1, 0, 0, -1, 4), game.digest());
  }

  private static void digestOfVariables() {
    due(hash(0, 3, 1, 0, 0, 0, 0, 2, 0, 1, 0, 0, 0, -1, 3), game("eue").digest());
    due(hash(0, 3, 1, 0, 0, 0, 0, 2, 0, 0, 1, 0, 0, -1, 3), game("eeu").digest());
    for (String owners : Sentences.fullOrders()) {
      ForAllGame game = game(owners);
      due(dueDigest(game, 0, 4), game.digest());
    }
  }

  private static void digestOfClauses() {
    due(hash(0, 2, 0, 1, 0, 0, 0, 1, 0, 0, 1, 2, 0, 0, 0, -1, 3), game("ee", "a-b").digest());
    due(hash(0, 2, 0, 1, 0, 0, 0, 1, 0, 0, 3, 2, 1, 0, 0, -1, 3), game("ee", "ab-b").digest());
    for (int clauses = 0; clauses <= 20; clauses++) {
      ForAllGame game = Sentences.numberedClauses(clauses);
      due(dueDigest(game, 0, 4), game.digest());
    }
  }

  private static void digestOfGame() {
    ForAllGame game = game("eu", "ab", "-a-b");
    game.learn(1);
    due(hash(0, 2, 1, 2, 1, 2, 0, 2, 0, 1, 3, 0, 0, 0, 3, 0, 1, 1, 3, 4), game.digest());
    ForAllGame full = learned(game(FULL, "a-b", "-ab", "i"), 0, 1, 2, 3, 4, 5, 6, 7);
    due(List.of(1, 31, 3), List.of(full.winner(), full.copies(), full.proof()));
    due(dueDigest(full, 0, 4), full.digest());
  }

  private static void digestOfSaved() {
    ForAllGame game = new ForAllGame();
    for (int saved = 1; saved <= 6; saved++) {
      game.forget();
      due(NEW_DIGEST + Math.min(4, saved), game.digest());
    }
    for (int saved = 3; saved >= 0; saved--) {
      game.undo();
      due(NEW_DIGEST + saved, game.digest());
    }
  }

  private static void digestOverflow() {
    ForAllGame game = game("eu", "ab", "-a-b", "b-b");
    game.append('e');
    game.learnAll();
    due(OVERFLOWN, game.digest());
    ForAllGame full = learned(game(FULL, empties(20)), 0, 7);
    Sentences.write(full, "x".repeat(100));
    due(dueDigest(full, 100, 4), full.digest());
  }
}
