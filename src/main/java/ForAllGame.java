/** Formulas as games of a builder and a breaker; the words are those of the document. */
public final class ForAllGame {
  public static final int NONE = -1;

  private static final int MAX_BUILDERS = 6;
  private static final int MAX_BREAKERS = 3;
  private static final int MAX_CLAUSES = 20;
  private static final int MAX_SAVED = 4;
  private static final int MAX_TEXT = 100;
  /** The shortest order has two bytes. */
  private static final int MAX_ORDERS = 50;
  private static final int MAX_PLAY = 7;
  private static final int MAX_BYTE = 127;

  /** The players are told as the bit of a variable in State.breakers, and as winner() tells. */
  private static final int BUILDER = 0;
  private static final int BREAKER = 1;

  private static final int BREAKER_HAS_WON = -1;
  private static final int BUILDER_HAS_WON = -2;

  private static final int LAST_VALUE = 6;
  private static final int LAST_OF_CLAUSE = 2;

  private final State state = new State();
  private final SavedStates saved = new SavedStates();
  private final BeatenSets beaten = new BeatenSets();
  private final OrderText text = new OrderText();

  public ForAllGame() {
  }

  // ---- formula

  public int begin() {
    int before = state.variables;
    saved.push(state);
    state.clear();
    beaten.stale = true;
    return before;
  }

  public int addVariable(boolean breaker) throws IllegalStateException {
    if (!state.hasRoomFor(breaker)) {
      throw new IllegalStateException("the player has all variables already");
    }
    saved.push(state);
    putVariable(breaker);
    return state.variables - 1;
  }

  public int addClause(int positive, int negative)
      throws IllegalArgumentException, IllegalStateException {
    if (!state.hasVariables(positive) || !state.hasVariables(negative)) {
      throw new IllegalArgumentException("no such set of variables");
    }
    if (state.clauses >= MAX_CLAUSES) {
      throw new IllegalStateException("no room for a clause");
    }
    saved.push(state);
    putClause(positive, negative);
    return state.clauses - 1;
  }

  public int removeClause(int clause) throws IndexOutOfBoundsException {
    requireClause(clause);
    saved.push(state);
    state.dropClause(clause);
    formulaChanged();
    return state.clauses;
  }

  // ---- learning

  public int learn(int play) throws IllegalArgumentException, IllegalStateException {
    requirePlay(play);
    if (state.hasLearned(play)) {
      throw new IllegalStateException("learned already");
    }
    saved.push(state);
    state.learned |= 1 << play;
    return Integer.bitCount(state.learned);
  }

  public int forget() {
    int before = Integer.bitCount(state.learned);
    saved.push(state);
    state.learned = 0;
    return before;
  }

  public int round() {
    saved.push(state);
    return makeRound();
  }

  public int learnAll() {
    saved.push(state);
    int plays = state.plays();
    int learnedNow = 0;
    // Each round but the last learns another play, so this is the bound.
    while (learnedNow <= plays && makeRound() >= 0) {
      learnedNow++;
    }
    return learnedNow;
  }

  // ---- values

  public boolean isBreakers(int variable) throws IndexOutOfBoundsException {
    requireVariable(variable);
    return state.ownerOf(variable) == BREAKER;
  }

  public int clause(int clause, int what)
      throws IndexOutOfBoundsException, IllegalArgumentException {
    requireClause(clause);
    if (what < 0 || what > LAST_OF_CLAUSE) {
      throw new IllegalArgumentException("what is out of range");
    }
    int positive = read(state.positive, clause);
    int negative = read(state.negative, clause);
    if (what == 0) {
      return positive;
    }
    if (what == 1) {
      return negative;
    }
    return (positive & negative) != 0 ? 1 : 0;
  }

  public boolean isTrue(int values) throws IllegalArgumentException {
    if (!state.hasVariables(values)) {
      throw new IllegalArgumentException("no such values");
    }
    return state.holds(values);
  }

  public int value(int what) throws IllegalArgumentException {
    if (what < 0 || what > LAST_VALUE) {
      throw new IllegalArgumentException("what is out of range");
    }
    switch (what) {
      case 0:
        return state.variables;
      case 1:
        return Integer.bitCount(state.breakers);
      case 2:
        return state.clauses;
      case 3:
        return Integer.bitCount(state.learned);
      case 4:
        return state.learned;
      case 5:
        return state.rounds;
      default:
        return state.plays();
    }
  }

  // ---- game

  public int winner() {
    beaten.bringUpToDate(state);
    return winnerIn(0, 0);
  }

  public int winnerAt(int variable, int history)
      throws IndexOutOfBoundsException, IllegalArgumentException {
    requireVariable(variable);
    requireHistory(variable, history);
    beaten.bringUpToDate(state);
    return winnerIn(variable, history);
  }

  public int move(int variable, int history)
      throws IndexOutOfBoundsException, IllegalArgumentException {
    requireVariable(variable);
    requireHistory(variable, history);
    beaten.bringUpToDate(state);
    int player = state.ownerOf(variable);
    if (winnerIn(variable + 1, history) == player) {
      return 0;
    }
    if (winnerIn(variable + 1, history | (1 << variable)) == player) {
      return 1;
    }
    return NONE;
  }

  public int ways(int play) throws IllegalArgumentException {
    requirePlay(play);
    int count = 0;
    int end = 1 << state.variables;
    for (int values = 0; values < end; values++) {
      if (state.playIn(values) == play && state.holds(values)) {
        count++;
      }
    }
    return count;
  }

  // ---- against plays

  public boolean beats(int plays) throws IllegalArgumentException {
    if (plays < 0 || plays > state.allPlays()) {
      throw new IllegalArgumentException("no such set of plays");
    }
    beaten.bringUpToDate(state);
    return beaten.has(0, 0, plays);
  }

  public int answer(int variable, int play)
      throws IndexOutOfBoundsException, IllegalArgumentException {
    requireVariable(variable);
    if (state.ownerOf(variable) == BREAKER) {
      throw new IllegalArgumentException("the variable is the breaker's");
    }
    requirePlay(play);
    beaten.bringUpToDate(state);
    if (!beaten.has(0, 0, state.learned)) {
      return NONE;
    }
    return bit(valuesAgainst(play), variable);
  }

  public int copies() {
    int copies = 0;
    int breakersBefore = 0;
    for (int variable = 0; variable < state.variables; variable++) {
      if (state.ownerOf(variable) == BREAKER) {
        breakersBefore++;
      } else {
        copies += learnedBeginnings(breakersBefore);
      }
    }
    return copies;
  }

  public int leastProof() {
    int proof = lowestLeastProof();
    return proof == NONE ? NONE : Integer.bitCount(proof);
  }

  public int proof() {
    return lowestLeastProof();
  }

  public double hope() {
    int hopeful = 0;
    int end = 1 << state.variables;
    for (int values = 0; values < end; values++) {
      if (state.holds(values)) {
        hopeful |= 1 << state.playIn(values);
      }
    }
    return (double) Integer.bitCount(hopeful) / (double) state.plays();
  }

  // ---- text

  public int append(int value) throws IllegalArgumentException, IllegalStateException {
    if (value < 0 || value > MAX_BYTE) {
      throw new IllegalArgumentException("no such byte");
    }
    if (text.length >= MAX_TEXT) {
      throw new IllegalStateException("the text is full");
    }
    text.put(value);
    return text.length;
  }

  public int clearText() {
    int before = text.length;
    text.length = 0;
    return before;
  }

  public int carryOut() {
    int error = text.syntaxError();
    if (error != NONE) {
      return -10 - error;
    }
    saved.push(state);
    text.rewind();
    int carriedOut = 0;
    while (carriedOut < MAX_ORDERS && text.readOrder() && obeyOrder()) {
      carriedOut++;
    }
    return carriedOut;
  }

  // ---- state

  public int undo() throws IllegalStateException {
    if (saved.count == 0) {
      throw new IllegalStateException("no saved state");
    }
    saved.pop(state);
    beaten.stale = true;
    return saved.count;
  }

  public long digest() {
    long h = 3823;
    h = 31 * h + text.length;
    for (int what = 0; what <= LAST_VALUE; what++) {
      h = 31 * h + value(what);
    }
    for (int variable = 0; variable < state.variables; variable++) {
      h = 31 * h + state.ownerOf(variable);
    }
    for (int clause = 0; clause < state.clauses; clause++) {
      for (int what = 0; what <= LAST_OF_CLAUSE; what++) {
        h = 31 * h + clause(clause, what);
      }
    }
    h = 31 * h + winner();
    h = 31 * h + copies();
    h = 31 * h + lowestLeastProof();
    return 31 * h + saved.count;
  }

  // ---- what the calls share

  private void requireVariable(int variable) {
    if (variable < 0 || variable >= state.variables) {
      throw new IndexOutOfBoundsException("no such variable");
    }
  }

  private void requireClause(int clause) {
    if (clause < 0 || clause >= state.clauses) {
      throw new IndexOutOfBoundsException("no such clause");
    }
  }

  private void requirePlay(int play) {
    if (!state.hasPlay(play)) {
      throw new IllegalArgumentException("no such play");
    }
  }

  private void requireHistory(int variable, int history) {
    if (history < 0 || (history >> variable) != 0) {
      throw new IllegalArgumentException("no such history");
    }
  }

  private void putVariable(boolean breaker) {
    state.putVariable(breaker);
    formulaChanged();
  }

  private void putClause(int positive, int negative) {
    state.putClause(positive, negative);
    formulaChanged();
  }

  private void formulaChanged() {
    state.learned = 0;
    beaten.stale = true;
  }

  private int makeRound() {
    beaten.bringUpToDate(state);
    state.rounds++;
    if (!beaten.has(0, 0, state.learned)) {
      return BREAKER_HAS_WON;
    }
    int plays = state.plays();
    for (int play = 0; play < plays; play++) {
      if (!state.holds(valuesAgainst(play))) {
        state.learned |= 1 << play;
        return play;
      }
    }
    return BUILDER_HAS_WON;
  }

  /**
   * The values of all variables when the breaker chooses a play and the builder keeps to the
   * answer to the learned set. Where no learned play fits, the set that is left is empty, which
   * is beaten: so the builder chooses 0 there without a test of its own.
   */
  private int valuesAgainst(int play) {
    int history = 0;
    int breakersBefore = 0;
    for (int variable = 0; variable < state.variables; variable++) {
      int chosen;
      if (state.ownerOf(variable) == BREAKER) {
        chosen = bit(play, breakersBefore);
        breakersBefore++;
      } else {
        chosen = beaten.has(variable + 1, history, state.learned) ? 0 : 1;
      }
      history |= chosen << variable;
    }
    return history;
  }

  /**
   * The breaker, whose choices the builder sees only when they are made, has in the game the
   * same freedom as in the game against all plays.
   */
  private int winnerIn(int position, int history) {
    return beaten.has(position, history, state.allPlays()) ? BUILDER : BREAKER;
  }

  /** How many different beginnings of this many values the learned plays have. */
  private int learnedBeginnings(int values) {
    int beginnings = 0;
    int plays = state.plays();
    for (int play = 0; play < plays; play++) {
      if (state.hasLearned(play)) {
        beginnings |= 1 << (play & ((1 << values) - 1));
      }
    }
    return Integer.bitCount(beginnings);
  }

  private int lowestLeastProof() {
    beaten.bringUpToDate(state);
    int best = NONE;
    int all = state.allPlays();
    for (int plays = 1; plays <= all; plays++) {
      boolean isSmaller = best == NONE || Integer.bitCount(plays) < Integer.bitCount(best);
      if (isSmaller && !beaten.has(0, 0, plays)) {
        best = plays;
      }
    }
    return best;
  }

  /** Carries out the order that the text has read last, unless it would throw. */
  private boolean obeyOrder() {
    switch (text.kind) {
      case 'e':
      case 'u':
        return obeyVariable(text.kind == 'u');
      case 'c':
        return obeyClause(text.positive, text.negative);
      case 'l':
        return obeyLearn(text.play);
      default:
        makeRound();
        return true;
    }
  }

  private boolean obeyVariable(boolean breaker) {
    if (!state.hasRoomFor(breaker)) {
      return false;
    }
    putVariable(breaker);
    return true;
  }

  private boolean obeyClause(int positive, int negative) {
    if (!state.hasVariables(positive | negative) || state.clauses >= MAX_CLAUSES) {
      return false;
    }
    putClause(positive, negative);
    return true;
  }

  private boolean obeyLearn(int play) {
    if (!state.hasPlay(play) || state.hasLearned(play)) {
      return false;
    }
    state.learned |= 1 << play;
    return true;
  }

  private static int bit(int number, int index) {
    return (number >> index) & 1;
  }

  // Every element is reached through these four, so that no index is used untested.

  private static int read(int[] row, int index) {
    return index >= 0 && index < row.length ? row[index] : 0;
  }

  private static void write(int[] row, int index, int value) {
    if (index >= 0 && index < row.length) {
      row[index] = value;
    }
  }

  private static long readLong(long[] row, int index) {
    return index >= 0 && index < row.length ? row[index] : 0L;
  }

  private static void writeLong(long[] row, int index, long value) {
    if (index >= 0 && index < row.length) {
      row[index] = value;
    }
  }

  /** All that undo() brings back. */
  private static final class State {
    private int variables;
    /** Bit v: the variable v is the breaker's. */
    private int breakers;
    private int clauses;
    private final int[] positive = new int[MAX_CLAUSES];
    private final int[] negative = new int[MAX_CLAUSES];
    /** Bit p: the play p is learned. */
    private int learned;
    private int rounds;

    private void clear() {
      variables = 0;
      breakers = 0;
      clauses = 0;
      learned = 0;
      rounds = 0;
    }

    private void copyFrom(State other) {
      variables = other.variables;
      breakers = other.breakers;
      clauses = other.clauses;
      for (int clause = 0; clause < clauses; clause++) {
        write(positive, clause, read(other.positive, clause));
        write(negative, clause, read(other.negative, clause));
      }
      learned = other.learned;
      rounds = other.rounds;
    }

    private int ownerOf(int variable) {
      return (breakers >> variable) & BREAKER;
    }

    private int plays() {
      return 1 << Integer.bitCount(breakers);
    }

    /** The set of all plays. */
    private int allPlays() {
      return (1 << plays()) - 1;
    }

    private boolean hasPlay(int play) {
      return play >= 0 && play < plays();
    }

    private boolean hasLearned(int play) {
      return bit(learned, play) == 1;
    }

    /** Whether a number is a set of variables that there are. */
    private boolean hasVariables(int set) {
      return set >= 0 && (set >> variables) == 0;
    }

    private boolean hasRoomFor(boolean breaker) {
      int ofBreaker = Integer.bitCount(breakers);
      return breaker ? ofBreaker < MAX_BREAKERS : variables - ofBreaker < MAX_BUILDERS;
    }

    private void putVariable(boolean breaker) {
      if (breaker) {
        breakers |= 1 << variables;
      }
      variables++;
    }

    private void putClause(int positiveSet, int negativeSet) {
      write(positive, clauses, positiveSet);
      write(negative, clauses, negativeSet);
      clauses++;
    }

    private void dropClause(int clause) {
      clauses--;
      for (int behind = clause; behind < clauses; behind++) {
        write(positive, behind, read(positive, behind + 1));
        write(negative, behind, read(negative, behind + 1));
      }
    }

    /** Whether the formula is true for the values of all variables. */
    private boolean holds(int values) {
      for (int clause = 0; clause < clauses; clause++) {
        boolean isTrue = (values & read(positive, clause)) != 0
            || (~values & read(negative, clause)) != 0;
        if (!isTrue) {
          return false;
        }
      }
      return true;
    }

    /** The play that the breaker has made in the values of all variables. */
    private int playIn(int values) {
      int play = 0;
      int breakersBefore = 0;
      for (int variable = 0; variable < variables; variable++) {
        if (ownerOf(variable) == BREAKER) {
          play |= bit(values, variable) << breakersBefore;
          breakersBefore++;
        }
      }
      return play;
    }
  }

  /** The states that undo() can bring back, in a ring, so that none is ever made anew. */
  private static final class SavedStates {
    private final State[] ring = {new State(), new State(), new State(), new State()};
    private int oldest;
    private int count;

    private void push(State state) {
      if (count == MAX_SAVED) {
        oldest = (oldest + 1) % MAX_SAVED;
        count--;
      }
      State slot = slot(count);
      if (slot != null) {
        slot.copyFrom(state);
      }
      count++;
    }

    private void pop(State state) {
      count--;
      State slot = slot(count);
      if (slot != null) {
        state.copyFrom(slot);
      }
    }

    private State slot(int age) {
      int index = (oldest + age) % MAX_SAVED;
      return index >= 0 && index < ring.length ? ring[index] : null;
    }
  }

  /**
   * For each position the sets of plays that the builder beats from there on, where of a set only
   * the plays count that fit the history. There are at most 256 sets, so a position needs 256
   * bits, and a choice joins those of the two positions behind it bit by bit: the builder needs
   * one of both, the breaker must be beaten in both.
   */
  private static final class BeatenSets {
    private static final int WORDS = 4;
    private static final int POSITIONS = 1 << (MAX_BUILDERS + MAX_BREAKERS + 1);
    private static final long ALL = -1L;
    /** At p: the bits, of each 64, of the sets without the play p. */
    private static final long[] WITHOUT = {
      0x5555555555555555L, 0x3333333333333333L, 0x0f0f0f0f0f0f0f0fL,
      0x00ff00ff00ff00ffL, 0x0000ffff0000ffffL, 0x00000000ffffffffL
    };

    private final long[] bits = new long[POSITIONS * WORDS];
    private boolean stale = true;

    private boolean has(int position, int history, int plays) {
      long word = readLong(bits, wordOf(position, history) + (plays >> 6));
      return ((word >> (plays & 63)) & 1) == 1;
    }

    private void bringUpToDate(State state) {
      if (!stale) {
        return;
      }
      stale = false;
      int end = 1 << state.variables;
      for (int values = 0; values < end; values++) {
        setEnd(state, values);
      }
      for (int variable = state.variables - 1; variable >= 0; variable--) {
        boolean breaker = state.ownerOf(variable) == BREAKER;
        for (int history = 0; history < 1 << variable; history++) {
          join(variable, history, breaker);
        }
      }
    }

    private void setEnd(State state, int values) {
      int first = wordOf(state.variables, values);
      boolean holds = state.holds(values);
      int play = state.playIn(values);
      for (int word = 0; word < WORDS; word++) {
        writeLong(bits, first + word, holds ? ALL : setsWithout(play, word));
      }
    }

    private void join(int variable, int history, boolean breaker) {
      int here = wordOf(variable, history);
      int with0 = wordOf(variable + 1, history);
      int with1 = wordOf(variable + 1, history | (1 << variable));
      for (int word = 0; word < WORDS; word++) {
        long sets0 = readLong(bits, with0 + word);
        long sets1 = readLong(bits, with1 + word);
        writeLong(bits, here + word, breaker ? sets0 & sets1 : sets0 | sets1);
      }
    }

    private static int wordOf(int position, int history) {
      return ((1 << position) + history) * WORDS;
    }

    private static long setsWithout(int play, int word) {
      if (play < WITHOUT.length) {
        return readLong(WITHOUT, play);
      }
      return bit(word, play - WITHOUT.length) == 0 ? ALL : 0L;
    }
  }

  /** The text, and the order that was read from it last. */
  private static final class OrderText {
    private static final int LAST_LETTER = 'i';

    private final int[] bytes = new int[MAX_TEXT];
    private int length;
    private int at;
    private int error = NONE;

    private int kind;
    private int positive;
    private int negative;
    private int play;

    private void put(int value) {
      write(bytes, length, value);
      length++;
    }

    private void rewind() {
      at = 0;
      error = NONE;
    }

    private int syntaxError() {
      rewind();
      int orders = 0;
      while (orders < MAX_ORDERS && readOrder()) {
        orders++;
      }
      return error;
    }

    /** Reads an order, if one is left and has no syntax error. */
    private boolean readOrder() {
      if (at >= length) {
        return false;
      }
      kind = byteAt(at);
      boolean isOrder = kind == 'e' || kind == 'u' || kind == 'c' || kind == 'l' || kind == 'r';
      if (!isOrder) {
        return fail(at);
      }
      at++;
      if (kind == 'c' && !readLiterals()) {
        return false;
      }
      if (kind == 'l' && !readPlay()) {
        return false;
      }
      if (byteAt(at) != ';') {
        return fail(at);
      }
      at++;
      return true;
    }

    private boolean readLiterals() {
      positive = 0;
      negative = 0;
      while (at < length && byteAt(at) != ';') {
        boolean isNegative = byteAt(at) == '-';
        if (isNegative) {
          at++;
        }
        int letter = byteAt(at);
        if (letter < 'a' || letter > LAST_LETTER) {
          return fail(at);
        }
        if (isNegative) {
          negative |= 1 << (letter - 'a');
        } else {
          positive |= 1 << (letter - 'a');
        }
        at++;
      }
      return true;
    }

    private boolean readPlay() {
      int first = at;
      play = 0;
      while (at < first + 2 && isDigit(byteAt(at))) {
        play = 10 * play + byteAt(at) - '0';
        at++;
      }
      // A third digit is found before a number that is out of its range.
      if (at == first || isDigit(byteAt(at))) {
        return fail(at);
      }
      return play <= MAX_PLAY || fail(first);
    }

    private boolean fail(int position) {
      error = position;
      return false;
    }

    /** Behind the end there is a byte that can stand nowhere. */
    private int byteAt(int index) {
      return index < length ? read(bytes, index) : NONE;
    }

    private static boolean isDigit(int value) {
      return value >= '0' && value <= '9';
    }
  }
}
