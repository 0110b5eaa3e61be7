/** The promises of the document one by one, with answers that are worked out by hand. */
public final class PromiseTest {
  private interface Call {
    Object made();
  }

  private static int wrong = 0;
  private static String promise = "";

  public static void main(String[] args) {
    newObject();
    begin();
    addVariable();
    addClause();
    removeClause();
    learn();
    forget();
    round();
    learnAll();
    isBreakers();
    clause();
    isTrue();
    value();
    winner();
    winnerAt();
    move();
    ways();
    beats();
    answer();
    copies();
    leastProof();
    proof();
    hope();
    append();
    clearText();
    carryOut();
    carryOutSyntax();
    undo();
    digest();
    System.out.println(wrong == 0 ? "all promises hold" : wrong + " answers are not as due");
    if (wrong != 0) {
      System.exit(1);
    }
  }

  // ---- helpers

  private static void due(Object want, Object got) {
    if (!want.equals(got)) {
      wrong++;
      String line = Thread.currentThread().getStackTrace()[2].toString();
      System.out.println(promise + ", " + line + ": answered " + got + ", due is " + want);
    }
  }

  private static void values(ForAllGame g, int... want) {
    for (int what = 0; what < want.length; what++) {
      if (g.value(what) != want[what]) {
        wrong++;
        String line = Thread.currentThread().getStackTrace()[2].toString();
        System.out.println(promise + ", " + line + ": value(" + what + ") answered "
            + g.value(what) + ", due is " + want[what]);
      }
    }
  }

  /** The call must throw exactly this exception, and the state must stay. */
  private static void refused(Class<?> want, ForAllGame g, Call call) {
    long before = g.digest();
    Object got;
    try {
      got = call.made();
    } catch (RuntimeException e) {
      got = e.getClass();
    }
    String line = Thread.currentThread().getStackTrace()[2].toString();
    if (!want.equals(got)) {
      wrong++;
      System.out.println(promise + ", " + line + ": answered " + got + ", due is " + want);
    }
    if (g.digest() != before) {
      wrong++;
      System.out.println(promise + ", " + line + ": changed the state");
    }
  }

  private static final Class<?> ARGUMENT = IllegalArgumentException.class;
  private static final Class<?> STATE = IllegalStateException.class;
  private static final Class<?> INDEX = IndexOutOfBoundsException.class;

  /** A game with variables, e the builder's and u the breaker's, and clauses as in texts. */
  private static ForAllGame game(String owners, String... clauses) {
    ForAllGame g = new ForAllGame();
    for (char owner : owners.toCharArray()) {
      g.addVariable(owner == 'u');
    }
    for (String literals : clauses) {
      int positive = 0;
      int negative = 0;
      for (int i = 0; i < literals.length(); i++) {
        if (literals.charAt(i) == '-') {
          i++;
          negative |= 1 << (literals.charAt(i) - 'a');
        } else {
          positive |= 1 << (literals.charAt(i) - 'a');
        }
      }
      g.addClause(positive, negative);
    }
    return g;
  }

  private static int carryOut(ForAllGame g, String text) {
    g.clearText();
    for (char c : text.toCharArray()) {
      g.append(c);
    }
    return g.carryOut();
  }

  // ---- formula

  private static void newObject() {
    promise = "Promise 1";
    ForAllGame g = new ForAllGame();
    values(g, 0, 0, 0, 0, 0, 0, 1);
    due(0, g.winner());
    due(true, g.isTrue(0));
    due(0, g.clearText());
    refused(STATE, g, g::undo);
    due(-1, ForAllGame.NONE);
  }

  private static void begin() {
    promise = "Promise 2";
    ForAllGame g = game("ue", "ab");
    g.round();
    g.append('e');
    due(2, g.begin());
    values(g, 0, 0, 0, 0, 0, 0, 1);
    due(0, g.winner());
    due(0, g.addClause(0, 0));
    due(3, g.undo());
    due(2, g.undo());
    values(g, 2, 1, 1, 1, 1, 1, 2);
    due(0, new ForAllGame().begin());
    due(1, g.clearText());
    ForAllGame lost = game("e", "");
    due(1, lost.winner());
    due(1, lost.begin());
    due(0, lost.winner());
  }

  private static void addVariable() {
    promise = "Promise 3";
    ForAllGame g = new ForAllGame();
    due(0, g.addVariable(false));
    due(1, g.addVariable(true));
    due(2, g.addVariable(true));
    due(3, g.addVariable(true));
    refused(STATE, g, () -> g.addVariable(true));
    for (int variable = 4; variable <= 8; variable++) {
      due(variable, g.addVariable(false));
    }
    refused(STATE, g, () -> g.addVariable(false));
    refused(STATE, g, () -> g.addVariable(true));
    values(g, 9, 3, 0, 0, 0, 0, 8);
    ForAllGame h = game("eeeeee");
    refused(STATE, h, () -> h.addVariable(false));
    due(6, h.addVariable(true));
    ForAllGame forgetting = game("ue", "ab");
    forgetting.round();
    due(2, forgetting.addVariable(false));
    values(forgetting, 3, 1, 1, 0, 0, 1, 2);
    due(3, forgetting.undo());
    values(forgetting, 2, 1, 1, 1, 1, 1, 2);
  }

  private static void addClause() {
    promise = "Promise 4";
    ForAllGame g = game("ue");
    refused(ARGUMENT, g, () -> g.addClause(4, 0));
    refused(ARGUMENT, g, () -> g.addClause(0, 4));
    refused(ARGUMENT, g, () -> g.addClause(-1, 0));
    refused(ARGUMENT, g, () -> g.addClause(0, Integer.MIN_VALUE));
    due(0, g.addClause(3, 3));
    due(1, g.addClause(0, 0));
    g.learn(1);
    for (int clause = 2; clause < 20; clause++) {
      due(clause, g.addClause(1, 2));
    }
    values(g, 2, 1, 20, 0, 0, 0, 2);
    refused(STATE, g, () -> g.addClause(1, 2));
    refused(ARGUMENT, g, () -> g.addClause(4, 2));
    due(3, g.undo());
    due(19, g.value(2));
  }

  private static void removeClause() {
    promise = "Promise 5";
    ForAllGame g = game("ue", "a", "b", "-a", "-b");
    refused(INDEX, g, () -> g.removeClause(4));
    refused(INDEX, g, () -> g.removeClause(-1));
    refused(INDEX, g, () -> g.removeClause(Integer.MAX_VALUE));
    g.round();
    due(3, g.removeClause(1));
    values(g, 2, 1, 3, 0, 0, 1, 2);
    due(1, g.clause(0, 0));
    due(1, g.clause(1, 1));
    due(2, g.clause(2, 1));
    due(2, g.removeClause(2));
    due(1, g.removeClause(0));
    due(1, g.clause(0, 1));
    due(0, g.removeClause(0));
    refused(INDEX, g, () -> g.removeClause(0));
    due(0, g.addClause(2, 0));
    due(2, g.clause(0, 0));
    due(3, g.undo());
    due(2, g.undo());
    due(1, g.clause(0, 1));
    ForAllGame many = game("ueeue", "a-b", "b-c", "c-d", "d-e", "e-a");
    due(4, many.removeClause(0));
    due(3, many.removeClause(2));
    due(2, many.clause(0, 0));
    due(4, many.clause(0, 1));
    due(4, many.clause(1, 0));
    due(8, many.clause(1, 1));
    due(16, many.clause(2, 0));
    due(1, many.clause(2, 1));
  }

  // ---- learning

  private static void learn() {
    promise = "Promise 6";
    ForAllGame g = game("ueu", "a");
    refused(ARGUMENT, g, () -> g.learn(4));
    refused(ARGUMENT, g, () -> g.learn(-1));
    due(1, g.learn(3));
    due(2, g.learn(0));
    refused(STATE, g, () -> g.learn(3));
    values(g, 3, 2, 1, 2, 9, 0, 4);
    due(3, g.undo());
    values(g, 3, 2, 1, 1, 8);
    ForAllGame empty = new ForAllGame();
    due(1, empty.learn(0));
    refused(STATE, empty, () -> empty.learn(0));
    refused(ARGUMENT, empty, () -> empty.learn(1));
  }

  private static void forget() {
    promise = "Promise 7";
    ForAllGame g = game("uu");
    due(0, g.forget());
    g.learn(1);
    g.learn(2);
    due(2, g.forget());
    values(g, 2, 2, 0, 0, 0, 0, 4);
    due(3, g.undo());
    values(g, 2, 2, 0, 2, 6);
  }

  private static void round() {
    promise = "Promise 8";
    // The builder's b must be different from the breaker's a.
    ForAllGame g = game("ue", "ab", "-a-b");
    due(0, g.round());
    values(g, 2, 1, 2, 1, 1, 1, 2);
    due(-2, g.round());
    values(g, 2, 1, 2, 1, 1, 2, 2);
    due(3, g.undo());
    values(g, 2, 1, 2, 1, 1, 1, 2);
    // The other way round the builder must choose first, and two plays are a proof.
    ForAllGame lost = game("eu", "ab", "-a-b");
    due(0, lost.round());
    due(1, lost.round());
    due(-1, lost.round());
    values(lost, 2, 1, 2, 2, 3, 3, 2);
    due(-1, lost.round());
    values(lost, 2, 1, 2, 2, 3, 4, 2);
    // Play 1 is learned, so 1 is answered for b; where only play 0 fits, it is 0.
    ForAllGame unlearned = game("ue", "b");
    unlearned.learn(1);
    due(0, unlearned.round());
    due(-2, unlearned.round());
    due(-2, new ForAllGame().round());
  }

  private static void learnAll() {
    promise = "Promise 9";
    ForAllGame g = game("eu", "ab", "-a-b");
    due(2, g.learnAll());
    values(g, 2, 1, 2, 2, 3, 3, 2);
    due(0, g.learnAll());
    values(g, 2, 1, 2, 2, 3, 4, 2);
    due(3, g.undo());
    due(2, g.undo());
    values(g, 2, 1, 2, 0, 0, 0, 2);
    // The builder copies three choices of the breaker: play 0 is answered by 0 already.
    ForAllGame copying = game("uuueee", "a-d", "-ad", "b-e", "-be", "c-f", "-cf");
    due(7, copying.learnAll());
    values(copying, 6, 3, 6, 7, 254, 8, 8);
    ForAllGame opposing = game("uuueee", "ad", "-a-d", "be", "-b-e", "cf", "-c-f");
    due(7, opposing.learnAll());
    values(opposing, 6, 3, 6, 7, 127, 8, 8);
    opposing.learn(7);
    due(0, opposing.learnAll());
  }

  // ---- values

  private static void isBreakers() {
    promise = "Promise 10";
    ForAllGame g = game("eue");
    due(false, g.isBreakers(0));
    due(true, g.isBreakers(1));
    due(false, g.isBreakers(2));
    refused(INDEX, g, () -> g.isBreakers(3));
    refused(INDEX, g, () -> g.isBreakers(-1));
    refused(INDEX, g, () -> g.isBreakers(Integer.MIN_VALUE));
  }

  private static void clause() {
    promise = "Promise 11";
    ForAllGame g = game("eue", "a-b", "ca-c", "");
    due(1, g.clause(0, 0));
    due(2, g.clause(0, 1));
    due(0, g.clause(0, 2));
    due(5, g.clause(1, 0));
    due(4, g.clause(1, 1));
    due(1, g.clause(1, 2));
    due(0, g.clause(2, 0));
    due(0, g.clause(2, 1));
    due(0, g.clause(2, 2));
    refused(INDEX, g, () -> g.clause(3, 0));
    refused(INDEX, g, () -> g.clause(-1, 3));
    refused(INDEX, g, () -> g.clause(20, -1));
    refused(ARGUMENT, g, () -> g.clause(0, 3));
    refused(ARGUMENT, g, () -> g.clause(0, -1));
  }

  private static void isTrue() {
    promise = "Promise 12";
    ForAllGame g = game("eu", "a-b");
    due(true, g.isTrue(0));
    due(true, g.isTrue(1));
    due(false, g.isTrue(2));
    due(true, g.isTrue(3));
    refused(ARGUMENT, g, () -> g.isTrue(4));
    refused(ARGUMENT, g, () -> g.isTrue(-1));
    g.addClause(0, 1);
    due(true, g.isTrue(0));
    due(false, g.isTrue(1));
    g.addClause(2, 2);
    due(true, g.isTrue(0));
    g.addClause(0, 0);
    due(false, g.isTrue(0));
    ForAllGame last = game("ueueueeee", "i");
    due(true, last.isTrue(256));
    due(false, last.isTrue(255));
    refused(ARGUMENT, last, () -> last.isTrue(512));
  }

  private static void value() {
    promise = "Promise 13";
    ForAllGame g = game("ueuu", "a", "b");
    g.learn(7);
    g.learn(2);
    values(g, 4, 3, 2, 2, 132, 0, 8);
    refused(ARGUMENT, g, () -> g.value(7));
    refused(ARGUMENT, g, () -> g.value(-1));
    due(-1, g.round());
    g.learnAll();
    values(g, 4, 3, 2, 2, 132, 2, 8);
    g.forget();
    values(g, 4, 3, 2, 0, 0, 2, 8);
    due(0, g.round());
    values(g, 4, 3, 2, 1, 1, 3, 8);
    g.removeClause(0);
    values(g, 4, 3, 1, 0, 0, 3, 8);
  }

  // ---- game

  private static void winner() {
    promise = "Promise 14";
    due(0, game("ue", "ab", "-a-b").winner());
    due(1, game("eu", "ab", "-a-b").winner());
    due(0, game("e", "a").winner());
    due(1, game("u", "a").winner());
    due(1, game("e", "").winner());
    due(0, game("u", "a-a").winner());
    due(0, game("").winner());
    due(0, game("uuueeeeee", "a-g", "-ag", "b-h", "-bh", "c-i", "-ci").winner());
    due(1, game("uueeeeeeu", "a-g", "-ag", "b-h", "-bh", "c-i", "-ci").winner());
    ForAllGame g = new ForAllGame();
    g.addClause(0, 0);
    due(1, g.winner());
    g.undo();
    due(0, g.winner());
  }

  private static void winnerAt() {
    promise = "Promise 15";
    ForAllGame g = game("eue", "a", "b-c", "-bc");
    due(0, g.winnerAt(0, 0));
    due(1, g.winnerAt(1, 0));
    due(0, g.winnerAt(1, 1));
    due(0, g.winnerAt(2, 1));
    due(0, g.winnerAt(2, 3));
    due(1, g.winnerAt(2, 2));
    refused(INDEX, g, () -> g.winnerAt(3, 0));
    refused(INDEX, g, () -> g.winnerAt(-1, -1));
    refused(ARGUMENT, g, () -> g.winnerAt(0, 1));
    refused(ARGUMENT, g, () -> g.winnerAt(1, 2));
    refused(ARGUMENT, g, () -> g.winnerAt(1, 4));
    refused(ARGUMENT, g, () -> g.winnerAt(2, -1));
  }

  private static void move() {
    promise = "Promise 16";
    ForAllGame g = game("eue", "a", "b-c", "-bc");
    due(1, g.move(0, 0));
    due(0, g.move(1, 0));
    due(-1, g.move(1, 1));
    due(1, g.move(2, 3));
    due(0, g.move(2, 1));
    due(-1, g.move(2, 0));
    refused(INDEX, g, () -> g.move(3, 0));
    refused(INDEX, g, () -> g.move(-1, 0));
    refused(ARGUMENT, g, () -> g.move(0, 1));
    refused(ARGUMENT, g, () -> g.move(2, 4));
    refused(ARGUMENT, g, () -> g.move(2, -4));
    ForAllGame breakers = game("u", "-a");
    due(1, breakers.move(0, 0));
    breakers.addClause(0, 0);
    due(0, breakers.move(0, 0));
  }

  private static void ways() {
    promise = "Promise 17";
    // The builder, with a and c, knows b: for b = 0 a or c, for b = 1 just c.
    ForAllGame g = game("eue", "ac", "-bc");
    due(3, g.ways(0));
    due(2, g.ways(1));
    refused(ARGUMENT, g, () -> g.ways(2));
    refused(ARGUMENT, g, () -> g.ways(-1));
    due(1, game("u", "a").ways(1));
    due(0, game("u", "a").ways(0));
    due(64, game("eeeeee").ways(0));
    due(1, new ForAllGame().ways(0));
    due(1, game("eu", "ab", "-a-b").ways(0));
  }

  // ---- against plays

  private static void beats() {
    promise = "Promise 18";
    ForAllGame g = game("eu", "ab", "-a-b");
    due(true, g.beats(0));
    due(true, g.beats(1));
    due(true, g.beats(2));
    due(false, g.beats(3));
    refused(ARGUMENT, g, () -> g.beats(4));
    refused(ARGUMENT, g, () -> g.beats(-1));
    due(true, game("", "").beats(0));
    due(false, game("", "").beats(1));
    // The builder sees a only, so plays that differ in a only, or in both, are told apart.
    ForAllGame seen = game("ueu", "b-c", "-bc");
    due(true, seen.beats(2 + 4));
    due(true, seen.beats(1 + 8));
    due(false, seen.beats(1 + 4));
    due(false, seen.beats(2 + 8));
    ForAllGame full = game("uuue", "d");
    due(true, full.beats(255));
    refused(ARGUMENT, full, () -> full.beats(256));
    due(false, game("uuue", "abcd", "abc-d").beats(1));
    due(true, game("uuue", "abcd", "abc-d").beats(254));
  }

  private static void answer() {
    promise = "Promise 19";
    ForAllGame g = game("eue", "ac", "-bc");
    due(0, g.answer(0, 0));
    due(0, g.answer(2, 1));
    due(0, g.round());
    // The play 0 is beaten by c alone; behind b = 1 no learned play fits.
    due(0, g.answer(0, 0));
    due(1, g.answer(2, 0));
    due(0, g.answer(0, 1));
    due(0, g.answer(2, 1));
    due(1, g.round());
    due(1, g.answer(2, 1));
    refused(INDEX, g, () -> g.answer(3, 0));
    refused(INDEX, g, () -> g.answer(-1, 9));
    refused(ARGUMENT, g, () -> g.answer(1, 0));
    refused(ARGUMENT, g, () -> g.answer(0, 2));
    refused(ARGUMENT, g, () -> g.answer(0, -1));
    ForAllGame lost = game("eu", "ab", "-a-b");
    lost.learn(0);
    due(1, lost.answer(0, 1));
    lost.learn(1);
    due(-1, lost.answer(0, 0));
  }

  private static void copies() {
    promise = "Promise 20";
    ForAllGame g = game("eueueu");
    due(0, g.copies());
    g.learn(0);
    due(3, g.copies());
    // Plays 0 and 4 differ behind the last variable of the builder.
    g.learn(4);
    due(3, g.copies());
    g.learn(3);
    due(1 + 2 + 2, g.copies());
    g.learn(1);
    due(1 + 2 + 3, g.copies());
    g.learn(2);
    due(1 + 2 + 4, g.copies());
    ForAllGame none = game("uu");
    none.learn(0);
    due(0, none.copies());
  }

  private static void leastProof() {
    promise = "Promise 21";
    due(-1, game("ue", "ab", "-a-b").leastProof());
    due(2, game("eu", "ab", "-a-b").leastProof());
    due(1, game("u", "a").leastProof());
    due(1, game("", "").leastProof());
    due(-1, new ForAllGame().leastProof());
    // Each play rules one of four choices of the builder out.
    due(4, game("eeuu", "abcd", "-ab-cd", "a-bc-d", "-a-b-c-d").leastProof());
    // With x and y the builder must say which of 8 plays is not made.
    due(8, game("eeeuuu", "a-db-ec-f", "a-db-e-cf", "a-d-bec-f", "a-d-be-cf",
        "-adb-ec-f", "-adb-e-cf", "-ad-bec-f", "-ad-be-cf").leastProof());
  }

  private static void proof() {
    promise = "Promise 22";
    due(-1, game("ue", "ab", "-a-b").proof());
    due(3, game("eu", "ab", "-a-b").proof());
    due(1, game("u", "a").proof());
    due(2, game("u", "-a").proof());
    due(255, game("eeeuuu", "a-db-ec-f", "a-db-e-cf", "a-d-bec-f", "a-d-be-cf",
        "-adb-ec-f", "-adb-e-cf", "-ad-bec-f", "-ad-be-cf").proof());
    // The builder sees a only: the plays 0 and 2 are a proof, and so are 1 and 3.
    due(5, game("ueu", "b-c", "-bc").proof());
    due(10, game("ueu", "-ab-c", "-a-bc").proof());
    // Fewer plays come before a lower number of the set.
    due(128, game("uuue", "-a-b-c").proof());
    due(8, game("ueu", "-a-c", "-bac", "ba-c").proof());
  }

  private static void hope() {
    promise = "Promise 23";
    due(1.0, new ForAllGame().hope());
    due(0.0, game("ueu", "").hope());
    due(1.0, game("eu", "ab", "-a-b").hope());
    due(0.75, game("ueu", "acb", "ac-b").hope());
    due(0.125, game("uuu", "a", "b", "c").hope());
  }

  // ---- text

  private static void append() {
    promise = "Promise 24";
    ForAllGame g = new ForAllGame();
    due(1, g.append(0));
    due(2, g.append(127));
    refused(ARGUMENT, g, () -> g.append(128));
    refused(ARGUMENT, g, () -> g.append(-1));
    for (int length = 3; length <= 100; length++) {
      due(length, g.append('e'));
    }
    refused(STATE, g, () -> g.append('e'));
    refused(ARGUMENT, g, () -> g.append(200));
    refused(STATE, g, g::undo);
  }

  private static void clearText() {
    promise = "Promise 25";
    ForAllGame g = new ForAllGame();
    due(0, g.clearText());
    g.append('e');
    g.append(';');
    due(2, g.clearText());
    due(0, g.clearText());
    due(0, g.carryOut());
    due(0, g.value(0));
    due(1, g.append('u'));
  }

  private static void carryOut() {
    promise = "Promise 26";
    ForAllGame g = new ForAllGame();
    due(7, carryOut(g, "u;e;cab;c-a-b;l1;r;r;"));
    values(g, 2, 1, 2, 2, 3, 2, 2);
    due(3, g.clause(0, 0));
    due(0, g.clause(0, 1));
    due(0, g.clause(1, 0));
    due(3, g.clause(1, 1));
    due(0, g.undo());
    values(g, 0, 0, 0, 0, 0, 0, 1);
    // The text stays, so it can be carried out again.
    due(7, g.carryOut());
    due(21, g.clearText());
    due(0, g.carryOut());
    due(1, g.undo());
    due(0, g.undo());
    values(g, 0, 0, 0, 0, 0, 0, 1);
    carryOutUpToRefusal();
    carryOutLongTexts();
  }

  /** It ends before the order that would throw, and nothing behind that one is done. */
  private static void carryOutUpToRefusal() {
    ForAllGame g = new ForAllGame();
    due(0, carryOut(g, "l1;u;"));
    due(1, carryOut(g, "l0;l0;r;"));
    values(g, 0, 0, 0, 1, 1, 0, 1);
    due(2, carryOut(g, "u;c;cb;e;"));
    values(g, 1, 1, 1, 0, 0, 0, 2);
    due(1, carryOut(g, "l1;l2;r;"));
    values(g, 1, 1, 1, 1, 2, 0, 2);
    due(0, carryOut(g, "c-i;r;"));
    values(g, 1, 1, 1, 1, 2, 0, 2);
    due(3, g.undo());
    due(2, carryOut(g, "u;u;u;e;"));
    values(g, 3, 3, 1, 0, 0, 0, 8);
    due(6, carryOut(g, "e;e;e;e;e;e;e;r;"));
    values(g, 9, 3, 1, 0, 0, 0, 8);
    due(2, carryOut(g, "l07;l6;"));
    values(g, 9, 3, 1, 2, 192, 0, 8);
  }

  private static void carryOutLongTexts() {
    ForAllGame g = game("eueueueee");
    due(3, carryOut(g, "c-aaa-a;cabcdefghi;c-a-b-c-d-e-f-g-h-i;"));
    due(1, g.clause(0, 0));
    due(1, g.clause(0, 1));
    due(511, g.clause(1, 0));
    due(0, g.clause(1, 1));
    due(0, g.clause(2, 0));
    due(511, g.clause(2, 1));
    due(17, carryOut(g, "c;".repeat(20)));
    due(20, g.value(2));
    due(50, carryOut(g, "r;".repeat(50)));
    due(50, g.value(5));
  }

  /** A wrong text: nothing changes, and no state is saved. */
  private static void wrongAt(int position, String text) {
    ForAllGame g = game("e");
    g.clearText();
    for (char c : text.toCharArray()) {
      g.append(c);
    }
    long before = g.digest();
    int got = g.carryOut();
    if (got != -10 - position || g.digest() != before) {
      wrong++;
      System.out.println(promise + ": \"" + text + "\" answered " + got + ", due is "
          + (-10 - position) + (g.digest() == before ? "" : ", and it changed the state"));
    }
  }

  private static void carryOutSyntax() {
    wrongAt(0, ";");
    wrongAt(0, " e;");
    wrongAt(0, "E;");
    wrongAt(0, "\0");
    wrongAt(0, "-");
    wrongAt(0, "0;");
    wrongAt(1, "e");
    wrongAt(1, "ee;");
    wrongAt(1, "u ;");
    wrongAt(2, "e;;");
    wrongAt(3, "e;u");
    wrongAt(2, "e;x;");
    wrongAt(1, "r1;");
    wrongAt(1, "c");
    wrongAt(1, "cj;");
    wrongAt(1, "cA;");
    wrongAt(1, "c1;");
    wrongAt(2, "c-;");
    wrongAt(2, "c-");
    wrongAt(2, "c--a;");
    wrongAt(2, "c-j;");
    wrongAt(3, "c-a");
    wrongAt(4, "cabi`;");
    wrongAt(1, "l");
    wrongAt(1, "l;");
    wrongAt(1, "l-1;");
    wrongAt(1, "l:;");
    wrongAt(1, "l/;");
    wrongAt(2, "l1");
    wrongAt(2, "l1x");
    wrongAt(3, "l07");
    wrongAt(3, "l07a");
    wrongAt(1, "l8");
    wrongAt(1, "l8;");
    wrongAt(1, "l8x");
    wrongAt(1, "l08;");
    wrongAt(1, "l10;");
    wrongAt(1, "l99");
    wrongAt(3, "l999");
    wrongAt(3, "l000;");
    wrongAt(3, "l007;");
    wrongAt(3, "e;l9;x");
    wrongAt(4, "l7;l");
    wrongAt(100, "c".repeat(100));
    wrongAt(99, "e;".repeat(49) + "ex");
    wrongAt(98, "e;".repeat(49) + "x;");
  }

  // ---- state

  private static void undo() {
    promise = "Promise 27";
    ForAllGame g = new ForAllGame();
    refused(STATE, g, g::undo);
    g.addVariable(true);
    g.addVariable(false);
    g.addClause(3, 0);
    g.learn(0);
    g.append('r');
    g.append(';');
    g.round();
    g.forget();
    values(g, 2, 1, 1, 0, 0, 1, 2);
    // Six were saved, the oldest two are dropped.
    due(3, g.undo());
    values(g, 2, 1, 1, 1, 1, 1, 2);
    due(2, g.undo());
    values(g, 2, 1, 1, 1, 1, 0, 2);
    due(1, g.undo());
    values(g, 2, 1, 1, 0, 0, 0, 2);
    due(0, g.undo());
    values(g, 2, 1, 0, 0, 0, 0, 2);
    refused(STATE, g, g::undo);
    due(2, g.clearText());
    savingCalls();
  }

  /** Each undoable call saves a state, also one that changes nothing; no other call does. */
  private static void savingCalls() {
    ForAllGame g = new ForAllGame();
    g.begin();
    g.forget();
    g.learnAll();
    g.carryOut();
    due(3, g.undo());
    due(2, g.undo());
    due(0, g.value(5));
    due(1, g.undo());
    due(0, g.undo());
    g.winner();
    g.hope();
    g.proof();
    g.append('x');
    g.carryOut();
    g.clearText();
    g.digest();
    refused(STATE, g, g::undo);
    refused(ARGUMENT, g, () -> g.learn(1));
    refused(STATE, g, g::undo);
    // What the game answers is of the state that came back.
    ForAllGame lost = game("eu", "ab");
    due(0, lost.winner());
    lost.addClause(0, 3);
    due(1, lost.winner());
    due(3, lost.undo());
    due(0, lost.winner());
  }

  private static void digest() {
    promise = "Promise 28";
    ForAllGame g = new ForAllGame();
    due(hash(0, 0, 0, 0, 0, 0, 0, 1, 0, 0, -1, 0), g.digest());
    g.addVariable(false);
    g.addVariable(true);
    g.addClause(3, 0);
    g.addClause(0, 3);
    g.addClause(2, 2);
    g.append('e');
    due(hash(1, 2, 1, 3, 0, 0, 0, 2, 0, 1, 3, 0, 0, 0, 3, 0, 2, 2, 1, 1, 0, 3, 4), g.digest());
    g.learnAll();
    due(hash(1, 2, 1, 3, 2, 3, 3, 2, 0, 1, 3, 0, 0, 0, 3, 0, 2, 2, 1, 1, 1, 3, 4), g.digest());
  }

  private static long hash(long... values) {
    long h = 3823;
    for (long v : values) {
      h = 31 * h + v;
    }
    return h;
  }
}
