import java.util.ArrayDeque;
import java.util.ArrayList;
import java.util.Arrays;
import java.util.List;

/**
 * The sentences of "Terms" one by one, each with a test of its own: at the boundary that it
 * names, one step before it and one step behind it.
 */
public final class TermsTest {
  private static final Class<?> ARGUMENT = Sentences.ARGUMENT;
  private static final Class<?> STATE = Sentences.STATE;
  private static final Class<?> INDEX = Sentences.INDEX;

  public static void main(String[] args) {
    variables();
    clauses();
    theGame();
    plays();
    againstPlays();
    learning();
    text();
    syntaxErrors();
    undo();
    exceptions();
    calls();
    Sentences.end();
  }

  private static void sentence(String words, Sentences.Test test) {
    Sentences.sentence(words, test);
  }

  private static void due(Object want, Object got) {
    Sentences.due(want, got);
  }

  private static ForAllGame game(String owners, String... clauses) {
    return Sentences.game(owners, clauses);
  }

  // ---- variables

  private static void variables() {
    Sentences.part("Variables");
    sentence("There are at most 9", TermsTest::atMostNine);
    sentence("numbered from 0 in the order in which they were added", TermsTest::inOrder);
    sentence("also called a to i in texts", TermsTest::lettersOfVariables);
    sentence("Each belongs to the builder (at most 6)", TermsTest::atMostSix);
    sentence("or to the breaker (at most 3)", TermsTest::atMostThree);
    sentence("Each has the value 0 or 1 in a play", TermsTest::valuesOfVariables);
  }

  private static void atMostNine() {
    for (String owners : Sentences.fullOrders()) {
      ForAllGame game = game(owners.substring(0, 8));
      due(8, game.value(0));
      due(8, game.addVariable(owners.charAt(8) == 'u'));
      due(9, game.value(0));
      Sentences.refused(STATE, () -> game(owners),
          g -> g.addVariable(false), g -> g.addVariable(true));
    }
  }

  private static void inOrder() {
    for (String owners : Sentences.fullOrders()) {
      ForAllGame game = new ForAllGame();
      for (int variable = 0; variable < 9; variable++) {
        due(variable, game.addVariable(owners.charAt(variable) == 'u'));
      }
      for (int variable = 0; variable < 9; variable++) {
        due(owners.charAt(variable) == 'u', game.isBreakers(variable));
      }
    }
  }

  private static void lettersOfVariables() {
    for (int variable = 0; variable < 9; variable++) {
      char letter = "abcdefghi".charAt(variable);
      ForAllGame game = game("eeueueuee");
      due(2, Sentences.carryOut(game, "c" + letter + ";c-" + letter + ";"));
      due(1 << variable, game.clause(0, 0));
      due(0, game.clause(0, 1));
      due(0, game.clause(1, 0));
      due(1 << variable, game.clause(1, 1));
      ForAllGame without = game("eeueueuee".substring(0, variable));
      due(0, Sentences.carryOut(without, "c" + letter + ";"));
      due(0, Sentences.carryOut(without, "c-" + letter + ";"));
    }
    for (String beside : List.of("`", "j", "A", "I")) {
      due(-11, Sentences.carryOut(game("eeueueuee"), "c" + beside + ";"));
      due(-12, Sentences.carryOut(game("eeueueuee"), "c-" + beside + ";"));
    }
  }

  private static void atMostSix() {
    ForAllGame game = game("eeee");
    due(4, game.addVariable(false));
    due(5, game.addVariable(false));
    due(6, game.value(0));
    due(0, game.value(1));
    for (String owners : List.of("eeeeee", "eeeeeeu", "ueeeeee", "eeuueeee", "uueeeeeeu")) {
      Sentences.refused(STATE, () -> game(owners), g -> g.addVariable(false));
    }
    due(6, game("eeeeee").addVariable(true));
    due(8, game("uueeeeee").addVariable(true));
    due(7, game("ueueuee").addVariable(false));
  }

  private static void atMostThree() {
    ForAllGame game = game("u");
    due(1, game.addVariable(true));
    due(2, game.addVariable(true));
    due(3, game.value(0));
    due(3, game.value(1));
    for (String owners : List.of("uuu", "uuue", "euuu", "ueueu", "eeeeeeuuu")) {
      Sentences.refused(STATE, () -> game(owners), g -> g.addVariable(true));
    }
    due(3, game("uuu").addVariable(false));
    due(8, game("uuueeeee").addVariable(false));
    due(8, game("eeeeeeuu").addVariable(true));
  }

  private static void valuesOfVariables() {
    for (int variables = 0; variables <= 9; variables++) {
      String owners = "eueueueee".substring(0, variables);
      ForAllGame game = game(owners);
      for (int values : new int[] {0, (1 << variables) / 2, (1 << variables) - 1}) {
        due(true, game.isTrue(values));
      }
      int behind = 1 << variables;
      Sentences.refused(ARGUMENT, () -> game(owners), g -> g.isTrue(behind));
      for (int variable = 0; variable < variables; variable++) {
        int move = game.move(variable, 0);
        due(game.isBreakers(variable) ? -1 : 0, move);
      }
    }
    due(1, game("e", "a").move(0, 0));
  }

  // ---- clauses

  private static void clauses() {
    Sentences.part("Clauses");
    sentence("There are at most 20", TermsTest::atMostTwenty);
    sentence("numbered from 0", TermsTest::clausesInOrder);
    sentence("when one is removed, the numbers of those behind it become less by 1",
        TermsTest::clausesBehindARemovedOne);
    sentence("both can be empty", TermsTest::emptySets);
    sentence("told as numbers (bit v for the variable v)", TermsTest::setsAsNumbers);
    sentence("a variable can be in both", TermsTest::variableInBoth);
    sentence("true if one of its positive variables has the value 1",
        TermsTest::positiveVariables);
    sentence("or one of its negative variables has the value 0", TermsTest::negativeVariables);
    sentence("The formula is true if all clauses are true", TermsTest::allClauses);
  }

  private static void atMostTwenty() {
    ForAllGame game = Sentences.numberedClauses(18);
    due(18, game.addClause(1, 2));
    due(19, game.addClause(2, 1));
    due(20, game.value(2));
    Sentences.refused(STATE, () -> Sentences.numberedClauses(20),
        g -> g.addClause(1, 2), g -> g.addClause(0, 0), g -> g.addClause(31, 31));
    due(19, game.removeClause(0));
    due(19, game.addClause(0, 3));
    due(20, game.value(2));
    due(STATE, Sentences.outcome(game, g -> g.addClause(0, 3)));
  }

  private static void clausesInOrder() {
    ForAllGame game = game("eueue");
    for (int clause = 0; clause < 20; clause++) {
      due(clause, game.addClause(clause, 31 - clause));
      due(clause + 1, game.value(2));
    }
    for (int clause = 0; clause < 20; clause++) {
      due(clause, game.clause(clause, 0));
      due(31 - clause, game.clause(clause, 1));
    }
  }

  private static void clausesBehindARemovedOne() {
    for (int clauses : new int[] {1, 2, 3, 19, 20}) {
      for (int removed = 0; removed < clauses; removed++) {
        ForAllGame game = Sentences.numberedClauses(clauses);
        due(clauses - 1, game.removeClause(removed));
        for (int clause = 0; clause < clauses - 1; clause++) {
          int was = clause < removed ? clause : clause + 1;
          due(was + 1, game.clause(clause, 0));
          due(31 - was, game.clause(clause, 1));
        }
        int last = clauses - 1;
        due(INDEX, Sentences.outcome(game, g -> g.clause(last, 0)));
        due(INDEX, Sentences.outcome(game, g -> g.removeClause(last)));
        due(last, game.addClause(6, 9));
        due(6, game.clause(last, 0));
        due(9, game.clause(last, 1));
      }
    }
  }

  private static void emptySets() {
    for (int variables = 0; variables <= 9; variables++) {
      ForAllGame game = game("ueueueeee".substring(0, variables));
      due(0, game.addClause(0, 0));
      due(0, game.clause(0, 0));
      due(0, game.clause(0, 1));
      due(false, game.isTrue(0));
      due(false, game.isTrue((1 << variables) - 1));
    }
    ForAllGame onePositive = game("ue", "b");
    due(List.of(false, false, true, true), truths(onePositive));
    ForAllGame oneNegative = game("ue", "-b");
    due(List.of(true, true, false, false), truths(oneNegative));
  }

  private static void setsAsNumbers() {
    ForAllGame game = game("eueueueee");
    for (int variable = 0; variable < 9; variable++) {
      due(2 * variable, game.addClause(1 << variable, 0));
      due(2 * variable + 1, game.addClause(0, 1 << variable));
    }
    due(18, game.addClause(511, 511));
    for (int variable = 0; variable < 9; variable++) {
      due(1 << variable, game.clause(2 * variable, 0));
      due(0, game.clause(2 * variable, 1));
      due(0, game.clause(2 * variable + 1, 0));
      due(1 << variable, game.clause(2 * variable + 1, 1));
    }
    due(511, game.clause(18, 0));
    due(511, game.clause(18, 1));
    Sentences.refused(ARGUMENT, () -> game("eueueueee"),
        g -> g.addClause(512, 0), g -> g.addClause(0, 512));
  }

  private static void variableInBoth() {
    for (int variable = 0; variable < 9; variable++) {
      int set = 1 << variable;
      ForAllGame game = game("eueueueee");
      due(0, game.addClause(set, set));
      due(1, game.clause(0, 2));
      due(true, game.isTrue(0));
      due(true, game.isTrue(511));
      due(true, game.isTrue(set));
      due(true, game.isTrue(511 - set));
      due(1, game.addClause(511 - set, set));
      due(0, game.clause(1, 2));
      due(2, game.addClause(511, set));
      due(1, game.clause(2, 2));
    }
  }

  /** Whether the formula is true, for all values in order. */
  private static List<Boolean> truths(ForAllGame game) {
    List<Boolean> truths = new ArrayList<>();
    for (int values = 0; values < 1 << game.value(0); values++) {
      truths.add(game.isTrue(values));
    }
    return truths;
  }

  private static void positiveVariables() {
    for (int variable = 0; variable < 9; variable++) {
      ForAllGame game = game("eueueueee");
      game.addClause(1 << variable, 0);
      due(true, game.isTrue(1 << variable));
      due(true, game.isTrue(511));
      due(false, game.isTrue(0));
      due(false, game.isTrue(511 - (1 << variable)));
    }
    due(List.of(false, true, true, true), truths(game("ue", "ab")));
    due(List.of(false, true, true, true, true, true, true, true), truths(game("uee", "abc")));
  }

  private static void negativeVariables() {
    for (int variable = 0; variable < 9; variable++) {
      ForAllGame game = game("eueueueee");
      game.addClause(0, 1 << variable);
      due(false, game.isTrue(1 << variable));
      due(false, game.isTrue(511));
      due(true, game.isTrue(0));
      due(true, game.isTrue(511 - (1 << variable)));
    }
    due(List.of(true, true, true, false), truths(game("ue", "-a-b")));
    due(List.of(true, true, false, true), truths(game("ue", "a-b")));
    due(List.of(true, true, true, true, true, false, true, true), truths(game("uee", "-ab-c")));
  }

  private static void allClauses() {
    due(List.of(true, true, true, true), truths(game("ue")));
    due(List.of(true), truths(game("")));
    for (int wrong = 0; wrong < 20; wrong++) {
      String[] literals = new String[20];
      Arrays.fill(literals, "a");
      due(List.of(false, true), truths(game("e", literals)));
      literals[wrong] = "-a";
      due(List.of(false, false), truths(game("e", literals)));
    }
    due(List.of(false, true, true, false), truths(game("ue", "ab", "-a-b")));
  }

  // ---- game

  private static void theGame() {
    Sentences.part("Game");
    sentence("in the order of their numbers, each from its player, who knows the values of all"
        + " variables before it", TermsTest::whoKnowsWhat);
    sentence("The builder wins if the formula is true in the end, otherwise the breaker wins",
        TermsTest::theEnd);
    sentence("A history tells the values of the first variables: bit v for the variable v",
        TermsTest::histories);
    sentence("A player wins in a position if the player has a way .. so that the player wins,"
        + " whatever the other one chooses", TermsTest::whateverTheOtherChooses);
  }

  /** The builder can make two variables alike just if the own one is behind the other. */
  private static void whoKnowsWhat() {
    for (int breakers = 0; breakers < 9; breakers++) {
      for (int builders = 0; builders < 9; builders++) {
        if (breakers != builders) {
          ForAllGame game = game(withBreaker(breakers, builders));
          game.addClause(1 << breakers, 1 << builders);
          game.addClause(1 << builders, 1 << breakers);
          due(breakers < builders ? 0 : 1, game.winner());
        }
      }
    }
  }

  /** Nine owners: one variable is the breaker's, another one the builder's. */
  private static String withBreaker(int breakers, int builders) {
    for (String owners : Sentences.fullOrders()) {
      if (owners.charAt(breakers) == 'u' && owners.charAt(builders) == 'e') {
        return owners;
      }
    }
    throw new IllegalStateException("no such order");
  }

  private static void theEnd() {
    due(0, game("").winner());
    due(1, game("", "").winner());
    ForAllGame last = game("ue", "ab", "-a-b");
    due(List.of(0, 1), List.of(last.move(1, 1), last.move(1, 0)));
    due(0, last.winnerAt(1, 0));
    ForAllGame lastOfBreaker = game("eu", "ab");
    due(List.of(0, -1), List.of(lastOfBreaker.move(1, 0), lastOfBreaker.move(1, 1)));
    due(1, lastOfBreaker.winnerAt(1, 0));
    due(0, lastOfBreaker.winnerAt(1, 1));
  }

  private static void histories() {
    for (int good = 0; good < 16; good++) {
      // The formula is true just for the four values that are good, whatever e is.
      ForAllGame game = game("eeeee");
      for (int variable = 0; variable < 4; variable++) {
        int bit = 1 << variable;
        game.addClause(good & bit, bit & ~good);
      }
      for (int variable = 0; variable < 5; variable++) {
        for (int history = 0; history < 1 << variable; history++) {
          int fits = good & ((1 << variable) - 1);
          due(history == fits ? 0 : 1, game.winnerAt(variable, history));
        }
      }
    }
  }

  private static void whateverTheOtherChooses() {
    due(1, game("u", "a").winner());
    due(1, game("u", "-a").winner());
    due(0, game("e", "a").winner());
    due(0, game("e", "-a").winner());
    due(0, game("eu", "ab", "a-b").winner());
    due(1, game("eu", "ab", "-a-b").winner());
    due(1, game("eu", "b").winner());
    // One of eight plays of the breaker is enough to win, and seven that lose do not help.
    due(1, game("uuueee", "abcd", "abc-d").winner());
    due(1, game("uuueee", "-a-b-cd", "-a-b-c-d").winner());
    due(0, game("uuueee", "abcd", "abce").winner());
    // One of 64 ways of the builder is enough to win.
    due(0, game("eeeeeeuuu", "ag", "bh", "ci", "d-g", "e-h", "f-i", "a", "b", "c").winner());
  }

  // ---- plays

  private static void plays() {
    Sentences.part("Plays");
    sentence("bit i for the value of the one with index i, counted from 0 among the variables of"
        + " the breaker", TermsTest::bitsOfPlays);
    sentence("With b variables of the breaker there are 2 to the power of b plays",
        TermsTest::numberOfPlays);
    sentence("Without such variables there is one, the play 0", TermsTest::onePlay);
  }

  private static void bitsOfPlays() {
    for (String owners : Sentences.fullOrders()) {
      int index = 0;
      for (int variable = 0; variable < 9; variable++) {
        if (owners.charAt(variable) == 'u') {
          ForAllGame game = game(owners);
          game.addClause(1 << variable, 0);
          for (int play = 0; play < 8; play++) {
            due((play >> index) % 2 == 1 ? 64 : 0, game.ways(play));
          }
          index++;
        }
      }
    }
  }

  private static void numberOfPlays() {
    for (int b = 0; b <= 3; b++) {
      String owners = "euuu".substring(0, b + 1);
      int plays = (int) Math.pow(2, b);
      ForAllGame game = game(owners);
      due(b, game.value(1));
      due(plays, game.value(6));
      due(1, game.learn(plays - 1));
      due(0, game.answer(0, plays - 1));
      due(true, game.beats((1 << plays) - 1));
      Sentences.refused(ARGUMENT, () -> game(owners), g -> g.learn(plays), g -> g.ways(plays),
          g -> g.answer(0, plays), g -> g.beats(1 << plays));
    }
  }

  private static void onePlay() {
    for (String owners : List.of("", "e", "eeeeee")) {
      ForAllGame game = game(owners);
      due(1, game.value(6));
      due(1 << owners.length(), game.ways(0));
      due(true, game.beats(1));
      due(1, game.learn(0));
      due(1, game.value(4));
      due(1.0, game.hope());
      Sentences.refused(ARGUMENT, () -> game(owners), g -> g.learn(1), g -> g.ways(1),
          g -> g.beats(2), g -> g.learn(-1));
    }
  }

  // ---- against plays

  private static void againstPlays() {
    Sentences.part("Against plays");
    sentence("chooses a play of the set, which the builder does not know",
        TermsTest::unknownPlay);
    sentence("each one by the values of the variables before it", TermsTest::seenValues);
    sentence("so that the formula is true for every play of the set", TermsTest::everyPlay);
    sentence("The empty set is always beaten", TermsTest::emptySetIsBeaten);
    sentence("the builder chooses 0 if .. still beaten then, otherwise 1",
        TermsTest::zeroIfStillBeaten);
    sentence("position by position", TermsTest::positionByPosition);
    sentence("the plays of the set that fit the values of the breaker so far",
        TermsTest::fittingPlays);
  }

  private static void unknownPlay() {
    // The builder's a must be like the breaker's b, which comes behind it.
    ForAllGame game = game("euu", "a-b", "-ab");
    for (int plays = 0; plays < 16; plays++) {
      boolean hasZero = (plays & 5) != 0;
      boolean hasOne = (plays & 10) != 0;
      due(!hasZero || !hasOne, game.beats(plays));
    }
  }

  private static void seenValues() {
    // The builder's b must be like the breaker's c, and only a is seen before it.
    ForAllGame game = game("ueu", "b-c", "-bc");
    for (int plays = 0; plays < 16; plays++) {
      boolean alike = (plays & 5) != 5 && (plays & 10) != 10;
      due(alike, game.beats(plays));
    }
    ForAllGame behind = game("uue", "c-b", "-cb");
    for (int plays = 0; plays < 16; plays++) {
      due(true, behind.beats(plays));
    }
  }

  private static void everyPlay() {
    for (int lost = 0; lost < 8; lost++) {
      ForAllGame game = game("uuue");
      game.addClause(7 & ~lost, lost);
      for (int plays = 0; plays < 256; plays++) {
        due((plays >> lost) % 2 == 0, game.beats(plays));
      }
    }
  }

  private static void emptySetIsBeaten() {
    for (String owners : List.of("", "e", "u", "eu", "uuu", "uuueeeeee")) {
      ForAllGame game = game(owners, "");
      due(true, game.beats(0));
      due(false, game.beats(1));
      due(true, game(owners).beats(0));
      due(true, game(owners).beats(1));
      // It is the learned set at first, so a round learns a play although all is lost.
      due(0, game.round());
      due(-1, game.round());
    }
  }

  private static void zeroIfStillBeaten() {
    due(0, learned(game("e"), 0).answer(0, 0));
    due(1, learned(game("e", "a"), 0).answer(0, 0));
    due(0, learned(game("e", "-a"), 0).answer(0, 0));
    due(0, learned(game("eu", "a-b"), 0).answer(0, 1));
    due(1, learned(game("eu", "a-b"), 1).answer(0, 0));
    due(1, learned(game("eu", "a-b"), 0, 1).answer(0, 0));
    due(-1, learned(game("eu", "a-b", "-ab"), 0, 1).answer(0, 0));
  }

  private static ForAllGame learned(ForAllGame game, int... plays) {
    for (int play : plays) {
      game.learn(play);
    }
    return game;
  }

  private static void positionByPosition() {
    // Of the ways 01 and 10 it is the one with a = 0, and of 10 and 11 the one with b = 0.
    ForAllGame unlike = learned(game("ee", "ab", "-a-b"), 0);
    due(List.of(0, 1), List.of(unlike.answer(0, 0), unlike.answer(1, 0)));
    ForAllGame one = learned(game("ee", "a"), 0);
    due(List.of(1, 0), List.of(one.answer(0, 0), one.answer(1, 0)));
    ForAllGame six = learned(game("eeeeee", "f", "e-f", "-d-e", "c-d", "bd", "a-b"), 0);
    List<Integer> got = new ArrayList<>();
    for (int variable = 0; variable < 6; variable++) {
      got.add(six.answer(variable, 0));
    }
    due(List.of(1, 1, 0, 0, 1, 1), got);
  }

  private static void fittingPlays() {
    ForAllGame both = learned(game("ue", "-ab", "a-b"), 0, 1);
    due(List.of(0, 1), List.of(both.answer(1, 0), both.answer(1, 1)));
    // The play 1 is learned: the builder must choose 1 behind it, and may choose 0 elsewhere.
    ForAllGame last = learned(game("ue", "b"), 1);
    due(List.of(0, 1), List.of(last.answer(1, 0), last.answer(1, 1)));
    // Only the values so far count: b is chosen before it is seen that the play 0 is not 2.
    ForAllGame before = learned(game("ueu", "b-c", "-bc"), 2);
    due(List.of(1, 1), List.of(before.answer(1, 0), before.answer(1, 2)));
    due(List.of(0, 0), List.of(before.answer(1, 1), before.answer(1, 3)));
  }

  // ---- learning

  private static void learning() {
    Sentences.part("Learning");
    sentence("A set of plays is learned, empty at first", TermsTest::nothingLearned);
    sentence("if the builder does not beat the learned set, no play is learned, and the round"
        + " ends with -1", TermsTest::breakerHasWon);
    sentence("for positions in which no learned play fits .. the builder chooses 0",
        TermsTest::zeroWhereNothingFits);
    sentence("The lowest play for which the formula is false then is learned",
        TermsTest::lowestPlay);
    sentence("and the round ends with this play", TermsTest::playOfTheRound);
    sentence("if there is none, no play is learned, and the round ends with -2",
        TermsTest::builderHasWon);
    sentence("When variables or clauses are added or removed, all learned plays are forgotten",
        TermsTest::whatForgets);
    sentence("(the number of rounds so far stays)", TermsTest::roundsStay);
    sentence("all learned plays are forgotten: by those calls and no other",
        TermsTest::whatForgetsNothing);
  }

  private static void nothingLearned() {
    for (String owners : List.of("", "e", "u", "uuu", "eueueueee")) {
      ForAllGame game = game(owners, "");
      due(0, game.value(3));
      due(0, game.value(4));
      due(0, game.value(5));
      due(0, game.copies());
    }
  }

  private static void breakerHasWon() {
    ForAllGame game = game("eu", "ab", "-a-b");
    game.learn(0);
    due(1, game.round());
    Sentences.values(game, 2, 1, 2, 2, 3, 1, 2);
    due(-1, game.round());
    Sentences.values(game, 2, 1, 2, 2, 3, 2, 2);
    due(-1, game.round());
    Sentences.values(game, 2, 1, 2, 2, 3, 3, 2);
    // Also when there are plays that are not learned and for which the formula is false.
    ForAllGame early = learned(game("uu", ""), 3);
    due(-1, early.round());
    Sentences.values(early, 2, 2, 1, 1, 8, 1, 4);
    ForAllGame one = game("", "");
    due(0, one.round());
    due(-1, one.round());
    Sentences.values(one, 0, 0, 1, 1, 1, 2, 1);
  }

  private static void zeroWhereNothingFits() {
    // The play 0 is learned, for which d = 1 is the answer: for the others it is 0 all the same.
    ForAllGame game = learned(game("uuue", "d"), 0);
    for (int play = 0; play < 8; play++) {
      due(play == 0 ? 1 : 0, game.answer(3, play));
    }
    due(1, game.round());
    due(1, game.answer(3, 1));
    due(0, game.answer(3, 2));
    ForAllGame none = game("e", "a");
    due(0, none.answer(0, 0));
    due(0, none.round());
    due(1, none.answer(0, 0));
    due(-2, none.round());
  }

  private static void lowestPlay() {
    // With d = 0 the formula is false for the plays of a set, with d = 1 it is true.
    for (int lost = 0; lost < 256; lost++) {
      ForAllGame game = game("uuue");
      for (int play = 0; play < 8; play++) {
        if ((lost >> play) % 2 == 1) {
          game.addClause(8 | (7 & ~play), play);
        }
      }
      int lowest = lost == 0 ? -2 : Integer.numberOfTrailingZeros(lost);
      due(lowest, game.round());
      due(lost == 0 ? 0 : 1 << lowest, game.value(4));
    }
  }

  private static void playOfTheRound() {
    ForAllGame game = game("uuue", "d");
    for (int play = 0; play < 8; play++) {
      due(play, game.round());
      due(play + 1, game.value(3));
      due((1 << (play + 1)) - 1, game.value(4));
      due(play + 1, game.value(5));
    }
    due(-2, game.round());
  }

  private static void builderHasWon() {
    ForAllGame game = game("ue", "ab");
    due(0, game.round());
    due(-2, game.round());
    Sentences.values(game, 2, 1, 1, 1, 1, 2, 2);
    due(-2, game.round());
    Sentences.values(game, 2, 1, 1, 1, 1, 3, 2);
    due(-2, new ForAllGame().round());
    ForAllGame full = game("uuue", "d");
    full.learnAll();
    due(-2, full.round());
    Sentences.values(full, 4, 3, 1, 8, 255, 10, 8);
  }

  private static void whatForgets() {
    List<Sentences.Call> changes = List.of(g -> g.addVariable(false), g -> g.addVariable(true),
        g -> g.addClause(0, 0), g -> g.addClause(1, 1), g -> g.removeClause(0),
        g -> g.removeClause(1), g -> Sentences.carryOut(g, "e;"),
        g -> Sentences.carryOut(g, "u;"), g -> Sentences.carryOut(g, "c;"));
    for (Sentences.Call change : changes) {
      ForAllGame game = learned(game("ueu", "ab", "b-c"), 0, 3);
      change.on(game);
      due(0, game.value(3));
      due(0, game.value(4));
      due(0, game.copies());
      due(1, game.learn(3));
    }
  }

  private static void roundsStay() {
    List<Sentences.Call> changes = List.of(g -> g.addVariable(false), g -> g.addVariable(true),
        g -> g.addClause(0, 0), g -> g.removeClause(0), ForAllGame::forget,
        g -> Sentences.carryOut(g, "e;u;c;"));
    for (Sentences.Call change : changes) {
      ForAllGame game = game("ue", "ab");
      game.round();
      game.learnAll();
      due(2, game.value(5));
      change.on(game);
      due(0, game.value(3));
      due(2, game.value(5));
      game.round();
      due(3, game.value(5));
    }
  }

  private static void whatForgetsNothing() {
    Sentences.Making full = () -> learned(game("uueeueeee", times(20, "a")), 0, 7);
    Sentences.refused(STATE, full, g -> g.addVariable(false), g -> g.addVariable(true),
        g -> g.addClause(1, 1));
    Sentences.refused(ARGUMENT, full, g -> g.addClause(512, 0));
    Sentences.refused(INDEX, full, g -> g.removeClause(20));
    List<Sentences.Call> others = List.of(ForAllGame::round, ForAllGame::learnAll,
        g -> g.learn(5), g -> g.append('e'), ForAllGame::clearText, ForAllGame::carryOut,
        ForAllGame::winner, ForAllGame::proof, ForAllGame::digest, g -> g.beats(0),
        g -> Sentences.carryOut(g, "e;u;c;"), g -> Sentences.carryOut(g, "r;l6;"));
    for (Sentences.Call other : others) {
      ForAllGame game = full.made();
      other.on(game);
      due(129, game.value(4) & 129);
    }
  }

  private static String[] times(int times, String clause) {
    String[] clauses = new String[times];
    Arrays.fill(clauses, clause);
    return clauses;
  }

  // ---- text

  private static void text() {
    Sentences.part("Text");
    sentence("The text has at most 100 bytes", TermsTest::atMostHundred);
    sentence("a sequence of orders, each terminated by a semicolon", TermsTest::semicolons);
    sentence("\"e\", to add a variable of the builder", TermsTest::orderE);
    sentence("\"u\", to add a variable of the breaker", TermsTest::orderU);
    sentence("\"c\" and any number of literals", TermsTest::orderC);
    sentence("a letter a to i for a positive variable, or \"-\" and such a letter for a negative"
        + " one", TermsTest::literals);
    sentence("\"l\" and a play of one or two digits, 0 to 7, to learn it", TermsTest::orderL);
    sentence("\"r\", for a round of learning", TermsTest::orderR);
    sentence("There are no spaces", TermsTest::noSpaces);
    sentence("there may be no orders", TermsTest::noOrders);
    sentence("Letters of variables .. that there are not are no syntax errors",
        TermsTest::lettersThatThereAreNot);
    sentence("plays that there are not are no syntax errors", TermsTest::playsThatThereAreNot);
    sentence("Numbers can have zeros in front", TermsTest::zerosInFront);
  }

  private static void atMostHundred() {
    ForAllGame game = new ForAllGame();
    Sentences.write(game, "r;".repeat(49) + "r");
    due(100, game.append(';'));
    due(50, game.carryOut());
    Sentences.refused(STATE, () -> written("r;".repeat(50)),
        g -> g.append(';'), g -> g.append(0), g -> g.append(127));
    due(100, game.clearText());
    due(1, game.append('r'));
  }

  private static ForAllGame written(String text) {
    ForAllGame game = new ForAllGame();
    Sentences.write(game, text);
    return game;
  }

  private static void semicolons() {
    for (String order : List.of("e", "u", "c", "l0", "r")) {
      due(1, Sentences.carryOut(new ForAllGame(), order + ";"));
      due(-10 - order.length(), Sentences.carryOut(new ForAllGame(), order));
      due(-10 - order.length() - 1, Sentences.carryOut(new ForAllGame(), order + ";;"));
      due(-10 - order.length(), Sentences.carryOut(new ForAllGame(), order + "r;"));
      due(2, Sentences.carryOut(new ForAllGame(), order + ";r;"));
    }
    due(-10, Sentences.carryOut(new ForAllGame(), ";"));
  }

  private static void orderE() {
    for (int before = 0; before <= 6; before++) {
      ForAllGame game = game("eeeeee".substring(0, before));
      due(before < 6 ? 1 : 0, Sentences.carryOut(game, "e;"));
      Sentences.values(game, before < 6 ? before + 1 : 6, 0);
    }
  }

  private static void orderU() {
    for (int before = 0; before <= 3; before++) {
      ForAllGame game = game("uuu".substring(0, before));
      due(before < 3 ? 1 : 0, Sentences.carryOut(game, "u;"));
      int now = before < 3 ? before + 1 : 3;
      Sentences.values(game, now, now);
    }
  }

  private static void orderC() {
    ForAllGame game = game("eueueueee");
    due(1, Sentences.carryOut(game, "c;"));
    due(1, Sentences.carryOut(game, "c-i;"));
    due(1, Sentences.carryOut(game, "c" + "abcdefghi".repeat(10) + "abcdefgh" + ";"));
    due(1, Sentences.carryOut(game, "c" + "-a".repeat(48) + "-i" + ";"));
    due(List.of(0, 0), List.of(game.clause(0, 0), game.clause(0, 1)));
    due(List.of(0, 256), List.of(game.clause(1, 0), game.clause(1, 1)));
    due(List.of(511, 0), List.of(game.clause(2, 0), game.clause(2, 1)));
    due(List.of(0, 257), List.of(game.clause(3, 0), game.clause(3, 1)));
    due(16, Sentences.carryOut(game, "c;".repeat(16)));
    due(20, game.value(2));
    due(0, Sentences.carryOut(game, "c;"));
  }

  private static void literals() {
    ForAllGame game = game("eueueueee");
    due(3, Sentences.carryOut(game, "ca-ai-i;cab-c-d;c-ab-aab;"));
    due(List.of(257, 257, 1), List.of(game.clause(0, 0), game.clause(0, 1), game.clause(0, 2)));
    due(List.of(3, 12, 0), List.of(game.clause(1, 0), game.clause(1, 1), game.clause(1, 2)));
    due(List.of(3, 1, 1), List.of(game.clause(2, 0), game.clause(2, 1), game.clause(2, 2)));
  }

  private static void orderL() {
    for (int play = 0; play <= 7; play++) {
      ForAllGame game = game("uuu");
      due(1, Sentences.carryOut(game, "l" + play + ";"));
      due(1 << play, game.value(4));
      due(0, game.value(5));
    }
    due(-11, Sentences.carryOut(game("uuu"), "l8;"));
    due(-11, Sentences.carryOut(game("uuu"), "l9;"));
    due(-11, Sentences.carryOut(game("uuu"), "l;"));
    due(-13, Sentences.carryOut(game("uuu"), "l000;"));
    due(8, Sentences.carryOut(game("uuu"), "l7;l0;l6;l1;l5;l2;l4;l3;"));
  }

  private static void orderR() {
    ForAllGame game = game("ue", "b");
    due(1, Sentences.carryOut(game, "r;"));
    Sentences.values(game, 2, 1, 1, 1, 1, 1, 2);
    due(3, Sentences.carryOut(game, "r;r;r;"));
    Sentences.values(game, 2, 1, 1, 2, 3, 4, 2);
    ForAllGame lost = game("u", "a");
    due(3, Sentences.carryOut(lost, "r;r;r;"));
    Sentences.values(lost, 1, 1, 1, 1, 1, 3, 2);
  }

  private static void noSpaces() {
    String whole = "e;u;cab;c-a-b;l07;r;";
    due(6, Sentences.carryOut(new ForAllGame(), "e;u;cab;c-a-b;l01;r;"));
    for (int place = 0; place <= whole.length(); place++) {
      int position = place;
      String text = whole.substring(0, place) + " " + whole.substring(place);
      Sentences.unchanged(-10 - position, () -> written(text), ForAllGame::carryOut);
    }
  }

  private static void noOrders() {
    ForAllGame game = new ForAllGame();
    due(0, game.carryOut());
    due(1, Sentences.undos(game));
    ForAllGame emptied = written("e;");
    emptied.clearText();
    due(0, emptied.carryOut());
    due(0, emptied.value(0));
  }

  private static void lettersThatThereAreNot() {
    for (int variables = 0; variables <= 9; variables++) {
      String owners = "eueueueee".substring(0, variables);
      for (int letter = 0; letter < 9; letter++) {
        String sign = "abcdefghi".substring(letter, letter + 1);
        int carriedOut = letter < variables ? 2 : 0;
        due(carriedOut, Sentences.carryOut(game(owners), "c" + sign + ";r;"));
        due(carriedOut, Sentences.carryOut(game(owners), "c-" + sign + ";r;"));
      }
    }
  }

  private static void playsThatThereAreNot() {
    for (int b = 0; b <= 3; b++) {
      String owners = "uuu".substring(0, b);
      for (int play = 0; play <= 7; play++) {
        int carriedOut = play < 1 << b ? 2 : 0;
        due(carriedOut, Sentences.carryOut(game(owners), "l" + play + ";r;"));
        due(carriedOut, Sentences.carryOut(game(owners), "l0" + play + ";r;"));
      }
    }
  }

  private static void zerosInFront() {
    for (int play = 0; play <= 7; play++) {
      ForAllGame game = game("uuu");
      due(1, Sentences.carryOut(game, "l0" + play + ";"));
      due(1 << play, game.value(4));
      due(0, Sentences.carryOut(game, "l" + play + ";"));
    }
    due(-11, Sentences.carryOut(game("uuu"), "l08;"));
    due(-11, Sentences.carryOut(game("uuu"), "l09;"));
    due(-13, Sentences.carryOut(game("uuu"), "l007;"));
  }

  // ---- syntax errors

  private static final int NO_ERROR = -1;
  private static final List<String> BEGUN = List.of("", "e", "u", "r", "c", "ca", "c-i", "cb-c",
      "c-", "ca-", "l", "l0", "l7", "l8", "l9", "l00", "l07", "l08", "l10", "l70", "l99");

  private static void syntaxErrors() {
    Sentences.part("Text, syntax error position");
    sentence("the index of the first byte that cannot stand where it stands",
        TermsTest::everyByteBehindEveryBeginning);
    sentence("(a digit too many, too)", TermsTest::digitTooMany);
    sentence("or the length of the text if the text ends too early", TermsTest::tooEarly);
    sentence("For a number that is out of its range it is the index of its first digit",
        TermsTest::outOfRange);
    sentence("found when a byte that is no digit, whichever it is, .. follows it",
        TermsTest::foundByAnyByte);
    sentence("or the end of the text, follows it", TermsTest::foundByTheEnd);
    sentence("the first byte: what stands behind it does not count", TermsTest::firstError);
  }

  /** Where the error is in a text that ends with this byte; all that was begun can go on. */
  private static int errorBehind(String begun, int sign) {
    int at = begun.length();
    boolean isDigit = sign >= '0' && sign <= '9';
    boolean isLetter = sign >= 'a' && sign <= 'i';
    switch (begun) {
      case "":
        return "eucrl".indexOf(sign) >= 0 ? 1 : 0;
      case "e", "u", "r":
        return sign == ';' ? NO_ERROR : 1;
      case "c", "ca", "c-i", "cb-c":
        return sign == ';' ? NO_ERROR : isLetter || sign == '-' ? at + 1 : at;
      case "c-", "ca-":
        return isLetter ? at + 1 : at;
      case "l":
        return isDigit && sign <= '7' ? 2 : 1;
      case "l0":
        return sign == ';' ? NO_ERROR : !isDigit ? 2 : sign <= '7' ? 3 : 1;
      case "l7":
        return sign == ';' ? NO_ERROR : isDigit ? 1 : 2;
      case "l8", "l9":
        return 1;
      case "l00", "l07":
        return sign == ';' ? NO_ERROR : 3;
      default:
        // Two digits that are out of range: a third one is too many before that is found.
        return isDigit ? 3 : 1;
    }
  }

  private static void everyByteBehindEveryBeginning() {
    for (String before : List.of("", "e;", "c-ab;l07;r;")) {
      for (String begun : BEGUN) {
        for (int sign = 0; sign <= 127; sign++) {
          String text = before + begun + (char) sign;
          int error = errorBehind(begun, sign);
          if (error == NO_ERROR) {
            due(true, Sentences.carryOut(game("eueu"), text) >= 0);
          } else {
            dueError(before.length() + error, text);
          }
        }
      }
    }
  }

  private static void dueError(int position, String text) {
    Sentences.unchanged(-10 - position, () -> {
      ForAllGame game = Sentences.saved(2);
      Sentences.write(game, text);
      return game;
    }, ForAllGame::carryOut);
  }

  private static void digitTooMany() {
    for (String digits : List.of("00", "07", "08", "10", "77", "99")) {
      for (char third = '0'; third <= '9'; third++) {
        dueError(3, "l" + digits + third);
        dueError(3, "l" + digits + third + ";");
        dueError(5, "r;l" + digits + third + "5;");
      }
    }
  }

  private static void tooEarly() {
    for (String whole : List.of("e;", "u;", "r;", "c;", "ca;", "c-a;", "cab-c-d;", "l0;",
        "l07;", "l7;")) {
      for (int end = 1; end < whole.length(); end++) {
        dueError(end, whole.substring(0, end));
        dueError(end + 2, "e;" + whole.substring(0, end));
      }
      due(true, Sentences.carryOut(new ForAllGame(), whole) >= 0);
    }
    dueError(99, "e;".repeat(49) + "e");
    dueError(100, "e;".repeat(48) + "cabi");
    dueError(100, "e;".repeat(49) + "l7");
    dueError(100, "c" + "a".repeat(99));
  }

  private static void outOfRange() {
    due(1, Sentences.carryOut(game("uuu"), "l7;"));
    due(1, Sentences.carryOut(game("uuu"), "l07;"));
    for (int number = 8; number <= 99; number++) {
      dueError(1, "l" + number + ";");
      dueError(5, "cab;l" + number + ";");
      dueError(4, "l7;l" + number + ";");
    }
    dueError(1, "l08;");
    dueError(1, "l09;");
    dueError(98, "e;".repeat(47) + "ca;l8;");
  }

  private static void foundByAnyByte() {
    for (String digits : List.of("8", "9", "08", "10", "99")) {
      for (int sign = 0; sign <= 127; sign++) {
        if (sign < '0' || sign > '9') {
          dueError(1, "l" + digits + (char) sign);
          dueError(3, "e;l" + digits + (char) sign + ";e;");
        }
      }
    }
  }

  private static void foundByTheEnd() {
    for (String digits : List.of("8", "9", "08", "09", "10", "70", "99")) {
      dueError(1, "l" + digits);
      dueError(4, "l7;l" + digits);
    }
    dueError(2, "l7");
    dueError(3, "l07");
    dueError(99, "r;".repeat(49) + "l8");
    dueError(98, "r;".repeat(47) + "ca;l10");
  }

  private static void firstError() {
    dueError(0, "xe;");
    dueError(0, "xx");
    dueError(1, "l9;x");
    dueError(1, "l9x9");
    dueError(3, "l999x");
    dueError(2, "e;x;l9;");
    dueError(1, "cjl9");
    dueError(2, "c--;");
    dueError(1, "e l9;");
    dueError(3, "e;l9;l999;");
    dueError(5, "e;l000;x");
  }

  // ---- undo

  private static void undo() {
    Sentences.part("Undo");
    sentence("Each successful call of a method whose description says \"undoable\" saves the"
        + " state from before the call", TermsTest::eachSaves);
    sentence("even if the call changes nothing", TermsTest::savesWithoutChange);
    sentence("at most 4 states are saved", TermsTest::atMostFour);
    sentence("the oldest is dropped first", TermsTest::oldestFirst);
    sentence("The saved state contains everything", TermsTest::savedEverything);
    sentence("except the text", TermsTest::exceptTheText);
    sentence("Each .. \"undoable\" saves: no other call does", TermsTest::noOtherSaves);
  }

  private static final List<Sentences.Call> UNDOABLE = List.of(ForAllGame::begin,
      g -> g.addVariable(false), g -> g.addVariable(true), g -> g.addClause(1, 2),
      g -> g.removeClause(0), g -> g.learn(1), ForAllGame::forget, ForAllGame::round,
      ForAllGame::learnAll, ForAllGame::carryOut);

  private static void eachSaves() {
    for (Sentences.Call call : UNDOABLE) {
      for (int states = 1; states <= 4; states++) {
        int before = states;
        Sentences.saves(() -> Sentences.saved(before), call);
      }
    }
    for (Sentences.Call call : List.<Sentences.Call>of(ForAllGame::begin,
        g -> g.addVariable(false), g -> g.addVariable(true), g -> g.addClause(0, 0),
        g -> g.learn(0), ForAllGame::forget, ForAllGame::round, ForAllGame::learnAll,
        ForAllGame::carryOut)) {
      Sentences.saves(ForAllGame::new, call);
    }
  }

  private static void savesWithoutChange() {
    for (Sentences.Call call : List.<Sentences.Call>of(ForAllGame::begin, ForAllGame::forget,
        ForAllGame::carryOut, g -> Sentences.carryOut(g, "l1;"))) {
      ForAllGame game = new ForAllGame();
      for (int calls = 1; calls <= 3; calls++) {
        call.on(game);
      }
      due(2, game.undo());
      call.on(game);
      due(2, game.undo());
      due(1, game.undo());
      due(0, game.undo());
      due(STATE, Sentences.outcome(game, ForAllGame::undo));
    }
  }

  private static void atMostFour() {
    for (Sentences.Call call : List.<Sentences.Call>of(ForAllGame::begin,
        g -> g.addVariable(false), g -> g.addClause(0, 0), ForAllGame::forget,
        ForAllGame::round, ForAllGame::learnAll, ForAllGame::carryOut)) {
      for (int calls = 0; calls <= 6; calls++) {
        ForAllGame game = new ForAllGame();
        for (int made = 0; made < calls; made++) {
          call.on(game);
        }
        due(Math.min(4, calls), Sentences.undos(game));
      }
    }
  }

  private static void oldestFirst() {
    for (int rounds = 0; rounds <= 12; rounds++) {
      ForAllGame game = new ForAllGame();
      for (int round = 0; round < rounds; round++) {
        game.round();
      }
      for (int back = 1; back <= Math.min(4, rounds); back++) {
        due(Math.min(4, rounds) - back, game.undo());
        due(rounds - back, game.value(5));
      }
      due(STATE, Sentences.outcome(game, ForAllGame::undo));
      due(Math.max(0, rounds - 4), game.value(5));
    }
    for (int order = 0; order < 1024; order++) {
      savedAsInAList(order);
    }
  }

  /** Ten calls, rounds and undos, told by the bits of a number. */
  private static void savedAsInAList(int order) {
    ForAllGame game = new ForAllGame();
    ArrayDeque<Integer> saved = new ArrayDeque<>();
    int rounds = 0;
    for (int call = 0; call < 10; call++) {
      if ((order >> call) % 2 == 1) {
        saved.addLast(rounds);
        rounds++;
        game.round();
        if (saved.size() > 4) {
          saved.removeFirst();
        }
      } else if (saved.isEmpty()) {
        due(STATE, Sentences.outcome(game, ForAllGame::undo));
      } else {
        rounds = saved.removeLast();
        due(saved.size(), game.undo());
      }
      due(rounds, game.value(5));
    }
  }

  private static void savedEverything() {
    comesBack(1, ForAllGame::begin);
    comesBack(2, g -> g.removeClause(1), g -> g.addClause(5, 6));
    comesBack(2, ForAllGame::forget, ForAllGame::round);
    comesBack(3, g -> g.learn(0), ForAllGame::learnAll, g -> g.addClause(0, 0));
    comesBack(1, g -> Sentences.carryOut(g, "r;c;ca;l5;r;r;"));
    comesBack(4, ForAllGame::begin, g -> g.addVariable(true), g -> g.addClause(1, 1),
        ForAllGame::round);
  }

  private static final String OWNERS = "eueueueee";

  /** A game with something of all that is saved. */
  private static ForAllGame allThatIsSaved() {
    ForAllGame game = game(OWNERS, "a-b", "", "i-i");
    game.learn(6);
    due(-1, game.round());
    return game;
  }

  /** After the calls and as many undos all is as it was before. */
  private static void comesBack(int undos, Sentences.Call... calls) {
    ForAllGame game = allThatIsSaved();
    for (Sentences.Call call : calls) {
      call.on(game);
    }
    due(false, game.value(2) == 3 && game.value(4) == 64 && game.value(5) == 1);
    for (int undone = 0; undone < undos; undone++) {
      game.undo();
    }
    Sentences.values(game, 9, 3, 3, 1, 64, 1, 8);
    for (int variable = 0; variable < 9; variable++) {
      due(OWNERS.charAt(variable) == 'u', game.isBreakers(variable));
    }
    due(List.of(1, 0, 256), List.of(game.clause(0, 0), game.clause(1, 0), game.clause(2, 0)));
    due(List.of(2, 0, 256), List.of(game.clause(0, 1), game.clause(1, 1), game.clause(2, 1)));
    due(Sentences.answers(allThatIsSaved()), Sentences.answers(game));
  }

  private static void exceptTheText() {
    ForAllGame game = written("e;u");
    due(-13, game.carryOut());
    game.begin();
    game.append(';');
    due(0, game.undo());
    due(2, game.carryOut());
    due(0, game.undo());
    game.forget();
    due(4, game.clearText());
    due(0, game.undo());
    due(0, game.carryOut());
    due(0, game.clearText());
  }

  private static void noOtherSaves() {
    List<Sentences.Call> asking = List.of(g -> g.isBreakers(0), g -> g.clause(0, 2),
        g -> g.isTrue(3), g -> g.value(5), ForAllGame::winner, g -> g.winnerAt(1, 1),
        g -> g.move(1, 0), g -> g.ways(1), g -> g.beats(3), g -> g.answer(1, 1),
        ForAllGame::copies, ForAllGame::leastProof, ForAllGame::proof, ForAllGame::hope,
        ForAllGame::digest);
    for (int states = 1; states <= 4; states++) {
      int saved = states;
      for (Sentences.Call call : asking) {
        Object answer = call.on(Sentences.saved(saved));
        Sentences.unchanged(answer, () -> Sentences.saved(saved), call);
      }
      ForAllGame game = Sentences.saved(saved);
      game.append('x');
      game.carryOut();
      game.clearText();
      due(saved, Sentences.undos(game));
    }
    ForAllGame undone = Sentences.saved(3);
    undone.undo();
    due(2, Sentences.undos(undone));
  }

  // ---- exceptions

  private static void exceptions() {
    Sentences.part("Exceptions");
    sentence("A call that throws an exception changes nothing", TermsTest::throwsChangeNothing);
    sentence("If several exceptions apply, the one that is listed first is thrown",
        TermsTest::listedFirst);
  }

  private static void throwsChangeNothing() {
    for (int states = 1; states <= 4; states++) {
      int saved = states;
      Sentences.Making making = () -> {
        ForAllGame game = Sentences.saved(saved);
        Sentences.write(game, "e;ca");
        return game;
      };
      Sentences.refused(INDEX, making, g -> g.removeClause(1), g -> g.isBreakers(2),
          g -> g.clause(1, 0), g -> g.winnerAt(2, 0), g -> g.move(2, 0), g -> g.answer(2, 0));
      Sentences.refused(ARGUMENT, making, g -> g.addClause(4, 0), g -> g.addClause(0, -1),
          g -> g.learn(2), g -> g.clause(0, 3), g -> g.isTrue(4), g -> g.value(7),
          g -> g.winnerAt(0, 1), g -> g.move(1, 2), g -> g.ways(2), g -> g.beats(4),
          g -> g.answer(0, 0), g -> g.answer(1, 2), g -> g.append(128), g -> g.append(-1));
      if (saved > 1) {
        Sentences.refused(STATE, making, g -> g.learn(0));
      }
    }
    Sentences.Making full = () -> {
      ForAllGame game = game("uueeueeee", times(20, "a"));
      game.learn(5);
      Sentences.write(game, "r;".repeat(50));
      return game;
    };
    Sentences.refused(STATE, full, g -> g.addVariable(false), g -> g.addVariable(true),
        g -> g.addClause(1, 1), g -> g.learn(5), g -> g.append('r'));
    Sentences.refused(STATE, () -> written("e;"), ForAllGame::undo);
  }

  private static void listedFirst() {
    Sentences.Making clauses = () -> Sentences.numberedClauses(20);
    Sentences.refused(ARGUMENT, clauses, g -> g.addClause(32, 0), g -> g.addClause(0, -1));
    Sentences.refused(STATE, clauses, g -> g.addClause(31, 0));
    Sentences.refused(INDEX, clauses, g -> g.clause(20, 3), g -> g.clause(-1, -1),
        g -> g.winnerAt(5, 32), g -> g.winnerAt(-1, -1), g -> g.move(5, -1),
        g -> g.move(-1, 1), g -> g.answer(5, 4), g -> g.answer(-1, -1));
    Sentences.refused(ARGUMENT, clauses, g -> g.clause(19, 3), g -> g.winnerAt(4, 16),
        g -> g.move(4, -1), g -> g.answer(4, 4), g -> g.answer(3, 4));
    Sentences.Making full = () -> written("r;".repeat(50));
    Sentences.refused(ARGUMENT, full, g -> g.append(128), g -> g.append(-1));
    Sentences.refused(STATE, full, g -> g.append(127), g -> g.append(0));
  }

  // ---- calls

  private static void calls() {
    Sentences.part("What it is");
    sentence("An object is used for at most 512 calls after it has been made",
        TermsTest::manyCalls);
    Sentences.part("The constants");
    sentence("NONE = -1: There is no such thing", () -> due(-1, ForAllGame.NONE));
  }

  private static void manyCalls() {
    ForAllGame rounds = new ForAllGame();
    for (int call = 1; call < 512; call++) {
      due(-2, rounds.round());
    }
    due(511, rounds.value(5));
    ForAllGame orders = written("r;".repeat(50));
    for (int call = 101; call < 512; call++) {
      due(50, orders.carryOut());
    }
    due(411 * 50, orders.value(5));
    ForAllGame texts = new ForAllGame();
    for (int call = 1; call <= 256; call++) {
      due(1, texts.append(call % 128));
      due(1, texts.clearText());
    }
    ForAllGame undone = game("eueueueee");
    for (int call = 10; call < 510; call += 2) {
      undone.addClause(call, 0);
      undone.undo();
    }
    due(0, undone.value(2));
    due(2, undone.undo());
    due(8, undone.value(0));
  }
}
