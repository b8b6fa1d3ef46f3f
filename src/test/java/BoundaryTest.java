/**
 * A test of its own for each sentence of the document that names a boundary case; main lists
 * the sentences in the document's order, and a wrong answer is told with its sentence.
 */
public final class BoundaryTest {
  /** Beside the nearest ones: what a mask, a narrow type or a wrapped index would take for a document. */
  private static final int[] OUT_OF_RANGE = {
    -1, 8, 9, -8, -7, 15, 16, 255, 256, 65536, 1 << 28, 1 << 29, -(1 << 28),
    Integer.MIN_VALUE, Integer.MIN_VALUE + 1, Integer.MAX_VALUE};

  /** Each number stands with the letter that it is, number & 3. */
  private static final int[][] NUMBERS_AND_LETTERS = {
    {0, 0}, {1, 1}, {2, 2}, {3, 3}, {4, 0}, {5, 1}, {6, 2}, {7, 3}, {-1, 3}, {-2, 2}, {-3, 1}, {-4, 0},
    {256, 0}, {257, 1}, {Integer.MAX_VALUE, 3}, {Integer.MIN_VALUE, 0}};

  private static final String FULL = "0123012301230123";
  private static final String FULL_QUERY = "01230123";
  private static final String[] EIGHT_FULL = {
    "0000000000000001", "1111111111111112", "2222222222222223", "3333333333333330",
    "0123012301230123", "3210321032103210", "0011223300112233", "3322110033221100"};
  private static final String[] SOME = {"", "0", "12", "3333", "0123012", FULL, "", "21"};
  private static final String[] NONE = {};

  private static String sentence = "";
  private static int wrong = 0;

  private interface Calls {
    void on(NearDocs x);
  }

  private interface DocumentCall {
    int on(NearDocs x, int doc);
  }

  // ---- what the tests are written with

  private static void due(String call, int got, int want) {
    if (got != want) {
      wrong++;
      System.out.println(sentence + ": " + call + " answered " + got + ", due is " + want);
    }
  }

  private static void test(String words, Runnable run) {
    sentence = words;
    try {
      run.run();
    } catch (RuntimeException thrown) {
      wrong++;
      System.out.println(sentence + ": a call threw " + thrown);
    }
  }

  private static void fill(NearDocs x, int doc, String row) {
    for (int i = 0; i < row.length(); i++) {
      x.write(doc, row.charAt(i) - '0');
    }
  }

  private static void ask(NearDocs x, String row) {
    for (int i = 0; i < row.length(); i++) {
      x.type(row.charAt(i) - '0');
    }
  }

  /** A new object that holds the query and the documents 0, 1 and so on; the others are empty. */
  private static NearDocs holding(String query, String... documents) {
    NearDocs x = new NearDocs();
    for (int doc = 0; doc < documents.length; doc++) {
      fill(x, doc, documents[doc]);
    }
    ask(x, query);
    return x;
  }

  /** Looking at a state takes another document as a copy, so each look has an object of its own. */
  private static void leaves(Calls calls, String query, String... documents) {
    for (int doc = 0; doc < 8; doc++) {
      NearDocs x = new NearDocs();
      calls.on(x);
      int copy = (doc + 1) % 8;
      String row = doc < documents.length ? documents[doc] : "";
      x.wipe(copy);
      fill(x, copy, row);
      due("then between(" + doc + ", a copy of \"" + row + "\")", x.between(doc, copy), 0);
      due("then wipe(" + doc + ")", x.wipe(doc), row.length());
    }
    NearDocs x = new NearDocs();
    calls.on(x);
    x.wipe(0);
    fill(x, 0, query);
    due("then whole(a copy of \"" + query + "\")", x.whole(0), 0);
    due("then type(0)", x.type(0), query.length() == 8 ? -1 : query.length() + 1);
  }

  private static void refused(String name, DocumentCall call) {
    String[][] states = {NONE, SOME, EIGHT_FULL};
    String[] queries = {"", "0123", FULL_QUERY};
    for (int i = 0; i < states.length; i++) {
      String[] documents = states[i];
      String query = queries[i];
      leaves(x -> {
        for (int doc = 0; doc < documents.length; doc++) {
          fill(x, doc, documents[doc]);
        }
        ask(x, query);
        for (int doc : OUT_OF_RANGE) {
          due(name + " of document " + doc, call.on(x, doc), -1);
        }
      }, query, documents);
    }
  }

  private static void notRefused(String name, DocumentCall call) {
    for (int doc : new int[] {0, 7}) {
      NearDocs x = holding("0123", SOME);
      if (call.on(x, doc) < 0) {
        due(name + " of document " + doc + " (0 for any answer)", -1, 0);
      }
    }
  }

  // ---- what it is

  private static void fiveHundredAndTwelveCalls() {
    NearDocs x = new NearDocs();
    for (int call = 1; call <= 508; call++) {
      due("call " + call + ", write(0, 1)", x.write(0, 1), call <= 16 ? call : -1);
    }
    due("call 509, type(1)", x.type(1), 1);
    due("call 510, type(2)", x.type(2), 2);
    due("call 511, distance(0)", x.distance(0), 1);
    due("call 512, end(0)", x.end(0), 1);

    NearDocs y = new NearDocs();
    for (int call = 1; call <= 511; call += 2) {
      due("call " + call + ", write(7, 2)", y.write(7, 2), 1);
      due("call " + (call + 1) + ", wipe(7)", y.wipe(7), 1);
    }
  }

  /** What later calls answer is free, but LANGUAGE.md's rule 7 holds: none may throw. */
  private static void laterCallsEnd() {
    NearDocs x = new NearDocs();
    for (int call = 0; call < 3000; call++) {
      x.write(call % 9, call);
      x.type(call);
      x.end(call % 9);
      x.between(call % 9, call % 7);
      x.pairs(call % 9);
      x.within(call % 10 - 1);
      x.nearest();
    }
  }

  // ---- terms

  private static void fourLetters() {
    for (int a = 0; a <= 3; a++) {
      for (int b = 0; b <= 3; b++) {
        NearDocs x = holding("" + a, "" + b, "" + a);
        int differ = a == b ? 0 : 1;
        due("between of letters " + b + " and " + a, x.between(0, 1), differ);
        due("whole of letters " + a + " and " + b, x.whole(0), differ);
        due("distance of letters " + a + " and " + b, x.distance(0), differ);
      }
    }
  }

  private static void eightDocuments() {
    for (int one = 0; one < 8; one++) {
      int doc = one;
      String[] alone = {"", "", "", "", "", "", "", ""};
      alone[doc] = "2";
      leaves(x -> due("write(" + doc + ", 2)", x.write(doc, 2), 1), "", alone);
    }
    due("write(8, 2)", new NearDocs().write(8, 2), -1);
    due("write(-1, 2)", new NearDocs().write(-1, 2), -1);
    NearDocs x = holding("", EIGHT_FULL);
    for (int doc = 0; doc < 8; doc++) {
      due("wipe(" + doc + ") with eight full documents", x.wipe(doc), 16);
    }
  }

  private static void documentsOfNoneToSixteen() {
    NearDocs x = new NearDocs();
    due("wipe(3) with 0 letters", x.wipe(3), 0);
    for (int n = 1; n <= 18; n++) {
      due("write(3, 1), time " + n, x.write(3, 1), n <= 16 ? n : -1);
    }
    due("whole(3)", x.whole(3), 16);
    due("wipe(3)", x.wipe(3), 16);
  }

  private static void queryOfNoneToEight() {
    NearDocs x = new NearDocs();
    due("whole(0) with 0 letters", x.whole(0), 0);
    for (int n = 1; n <= 17; n++) {
      due("type(1), time " + n, x.type(1), n <= 8 ? n : -1);
    }
    due("whole(0)", x.whole(0), 8);
  }

  private static void emptyAtTheStart() {
    leaves(x -> { }, "");
  }

  private static void distanceOfEmptyAndFullRows() {
    String zeros = "0".repeat(16);
    NearDocs x = holding("", "", "", zeros, zeros, "1".repeat(16), "1");
    due("between of two empty rows", x.between(0, 1), 0);
    due("between of an empty and a full row", x.between(0, 2), 16);
    due("between of a full and an empty row", x.between(2, 0), 16);
    due("between of two full rows, the same", x.between(2, 3), 0);
    due("between of two full rows, all letters other ones", x.between(2, 4), 16);
    due("between of a full row and one letter of another kind", x.between(2, 5), 16);
    due("between of one letter and a full row of its kind", x.between(5, 4), 15);
    due("between of one letter and an empty row", x.between(5, 0), 1);
  }

  private static void aStepTakesOutOneLetter() {
    for (int i = 0; i < 16; i++) {
      String row = FULL.substring(0, i) + FULL.substring(i + 1);
      due("between of a full row and it without letter " + i, holding("", FULL, row).between(0, 1), 1);
    }
    for (int i = 0; i < 8; i++) {
      String row = FULL_QUERY.substring(0, i) + FULL_QUERY.substring(i + 1);
      due("whole of a full query and it without letter " + i, holding(FULL_QUERY, row).whole(0), 1);
    }
  }

  private static void aStepPutsInOneLetterAnywhere() {
    String fifteen = FULL.substring(1);
    for (int i = 0; i <= 15; i++) {
      String row = fifteen.substring(0, i) + "2" + fifteen.substring(i);
      due("between of 15 letters and them with one put in at " + i, holding("", fifteen, row).between(0, 1), 1);
    }
    for (int i = 0; i <= 8; i++) {
      String row = FULL_QUERY.substring(0, i) + "2" + FULL_QUERY.substring(i);
      due("whole of a full query and it with one put in at " + i, holding(FULL_QUERY, row).whole(0), 1);
    }
  }

  private static void aStepChangesOneLetter() {
    for (int i = 0; i < 16; i++) {
      String row = FULL.substring(0, i) + (i + 2) % 4 + FULL.substring(i + 1);
      due("between of a full row and it with another letter " + i, holding("", FULL, row).between(0, 1), 1);
    }
    for (int i = 0; i < 8; i++) {
      String row = FULL_QUERY.substring(0, i) + (i + 2) % 4 + FULL_QUERY.substring(i + 1);
      due("whole of a full query and it with another letter " + i, holding(FULL_QUERY, row).whole(0), 1);
    }
    due("between of 01 and 10 (a swap is two steps)", holding("", "01", "10").between(0, 1), 2);
    due("whole of 01 and 10 (a swap is two steps)", holding("01", "10").whole(0), 2);
  }

  private static void partsOfNeighbouringLettersInTheirOrder() {
    for (int length = 1; length <= 8; length++) {
      for (int start = 0; start + length <= 16; start++) {
        String part = EIGHT_FULL[6].substring(start, start + length);
        due("distance of " + part + " in " + EIGHT_FULL[6], holding(part, EIGHT_FULL[6]).distance(0), 0);
      }
    }
    due("distance of 01 in 021 (not neighbours)", holding("01", "021").distance(0), 1);
    due("distance of 01 in 10 (another order)", holding("01", "10").distance(0), 1);
    due("distance of 01 in 1230 (not round the end)", holding("01", "1230").distance(0), 1);
    NearDocs full = holding("0123", "3".repeat(14) + "01", "23");
    due("distance(0) of 0123, 01 at its end and 23 in document 1", full.distance(0), 2);
    NearDocs last = holding("0123", "", "", "", "", "", "", "", "3".repeat(14) + "01");
    due("distance(7) of 0123, 01 at its end", last.distance(7), 2);
  }

  private static void theEmptyRowIsAPart() {
    for (int length = 0; length <= 16; length++) {
      String document = "3".repeat(length);
      due("distance of nothing in " + length + " letters", holding("", document).distance(0), 0);
      due("end of nothing in " + length + " letters", holding("", document).end(0), 0);
      due("distance of 012 in " + length + " letters 3", holding("012", document).distance(0), 3);
      due("end of 012 in " + length + " letters 3", holding("012", document).end(0), 0);
    }
    due("within(0) for the empty query", holding("", EIGHT_FULL).within(0), 8);
  }

  private static void firstAndLastNumberAreTaken() {
    notRefused("write", (x, doc) -> x.write(doc, 2));
    notRefused("wipe", (x, doc) -> x.wipe(doc));
    notRefused("distance", (x, doc) -> x.distance(doc));
    notRefused("end", (x, doc) -> x.end(doc));
    notRefused("whole", (x, doc) -> x.whole(doc));
    notRefused("between, as its first", (x, doc) -> x.between(doc, 1));
    notRefused("between, as its second", (x, doc) -> x.between(1, doc));
    notRefused("between, as both", (x, doc) -> x.between(doc, doc));
    notRefused("pairs", (x, doc) -> x.pairs(doc));
  }

  // ---- promise 1

  private static void newObject() {
    for (int doc = 0; doc < 8; doc++) {
      due("whole(" + doc + ")", new NearDocs().whole(doc), 0);
      due("write(" + doc + ", 3)", new NearDocs().write(doc, 3), 1);
    }
    due("type(3)", new NearDocs().type(3), 1);
    holding(FULL_QUERY, EIGHT_FULL);
    leaves(x -> { }, "");
  }

  // ---- promise 2

  private static void writeMasksTheLetter() {
    for (int[] pair : NUMBERS_AND_LETTERS) {
      leaves(x -> due("write(5, " + pair[0] + ")", x.write(5, pair[0]), 1), "", "", "", "", "", "", "" + pair[1]);
    }
  }

  private static void writeAddsAtTheEnd() {
    for (int length = 0; length <= 16; length++) {
      String row = EIGHT_FULL[0].substring(16 - length);
      leaves(x -> fill(x, 0, row), "", row);
    }
  }

  private static void writeAnswersTheNumberOfLetters() {
    for (int doc = 0; doc < 8; doc++) {
      NearDocs x = holding("012", SOME);
      x.wipe(doc);
      for (int n = 1; n <= 16; n++) {
        due("write(" + doc + ", 0), time " + n, x.write(doc, 0), n);
      }
    }
  }

  private static void writeIntoAFullDocument() {
    for (int full = 0; full < 8; full++) {
      int doc = full;
      leaves(x -> {
        for (int other = 0; other < 8; other++) {
          fill(x, other, EIGHT_FULL[other]);
        }
        ask(x, FULL_QUERY);
        for (int letter = -1; letter <= 4; letter++) {
          due("write(" + doc + ", " + letter + ") when full", x.write(doc, letter), -1);
        }
      }, FULL_QUERY, EIGHT_FULL);
      leaves(x -> {
        fill(x, doc, FULL);
        due("write(" + doc + ", 1) when it alone is full", x.write(doc, 1), -1);
        x.wipe(doc);
      }, "");
    }
  }

  // ---- promise 3

  private static void wipeMakesEmpty() {
    for (int length = 0; length <= 16; length++) {
      String row = FULL.substring(0, length);
      leaves(x -> {
        fill(x, 0, "1");
        fill(x, 1, row);
        fill(x, 2, FULL);
        ask(x, FULL_QUERY);
        due("wipe(1) with " + row.length() + " letters", x.wipe(1), row.length());
      }, FULL_QUERY, "1", "", FULL);
    }
  }

  private static void wipeOfAnEmptyDocument() {
    due("wipe(4) of a new object", new NearDocs().wipe(4), 0);
    NearDocs x = holding("", EIGHT_FULL);
    due("wipe(7)", x.wipe(7), 16);
    due("wipe(7) again", x.wipe(7), 0);
    due("wipe(7) a third time", x.wipe(7), 0);
  }

  private static void wipedLettersDoNotComeBack() {
    NearDocs x = holding("23", FULL);
    x.wipe(0);
    due("distance(0) after wipe", x.distance(0), 2);
    due("end(0) after wipe", x.end(0), 0);
    due("whole(0) after wipe", x.whole(0), 2);
    due("pairs(0) after wipe", x.pairs(0), 0);
    due("write(0, 0) after wipe", x.write(0, 0), 1);
    due("distance(0) with one letter again", x.distance(0), 2);
    due("between(0, 1) with one letter again", x.between(0, 1), 1);
    for (int n = 2; n <= 16; n++) {
      due("write(0, 1) after wipe, letter " + n, x.write(0, 1), n);
    }
    due("write(0, 1) when full again", x.write(0, 1), -1);
  }

  // ---- promise 4

  private static void typeMasksTheLetter() {
    for (int[] pair : NUMBERS_AND_LETTERS) {
      leaves(x -> due("type(" + pair[0] + ")", x.type(pair[0]), 1), "" + pair[1]);
    }
  }

  private static void typeAddsAtTheEnd() {
    for (int length = 0; length <= 8; length++) {
      String row = EIGHT_FULL[0].substring(16 - length);
      leaves(x -> ask(x, row), row);
    }
  }

  private static void typeAnswersTheNumberOfLetters() {
    NearDocs x = holding("", EIGHT_FULL);
    for (int n = 1; n <= 8; n++) {
      due("type(2), time " + n, x.type(2), n);
    }
  }

  private static void typeIntoAFullQuery() {
    leaves(x -> {
      for (int doc = 0; doc < 8; doc++) {
        fill(x, doc, SOME[doc]);
      }
      ask(x, FULL_QUERY);
      for (int letter = -1; letter <= 9; letter++) {
        due("type(" + letter + ") when full", x.type(letter), -1);
      }
    }, FULL_QUERY, SOME);
    leaves(x -> {
      ask(x, FULL_QUERY);
      due("type(1) when full, before clear()", x.type(1), -1);
      x.clear();
    }, "");
  }

  // ---- promise 5

  private static void clearMakesEmpty() {
    for (int length = 0; length <= 8; length++) {
      String row = FULL_QUERY.substring(0, length);
      leaves(x -> {
        for (int doc = 0; doc < 8; doc++) {
          fill(x, doc, EIGHT_FULL[doc]);
        }
        ask(x, row);
        x.clear();
      }, "", EIGHT_FULL);
    }
    leaves(x -> {
      x.clear();
      x.clear();
    }, "");
  }

  private static void clearedLettersDoNotComeBack() {
    NearDocs x = holding(FULL_QUERY, FULL);
    x.clear();
    due("distance(0) after clear", x.distance(0), 0);
    due("end(0) after clear", x.end(0), 0);
    due("whole(0) after clear", x.whole(0), 16);
    due("pairs(0) after clear", x.pairs(0), 0);
    due("type(3) after clear", x.type(3), 1);
    due("end(0) for 3", x.end(0), 4);
    due("pairs(0) for 3", x.pairs(0), 0);
    for (int n = 2; n <= 8; n++) {
      due("type(3) after clear, letter " + n, x.type(3), n);
    }
    due("type(3) when full again", x.type(3), -1);
  }

  // ---- promise 6

  private static void distanceIsTheLeast() {
    due("distance of 0 in 0 and fifteen 3", holding("0", "0" + "3".repeat(15)).distance(0), 0);
    due("distance of 0 in fifteen 3 and 0", holding("0", "3".repeat(15) + "0").distance(0), 0);
    due("distance of a full query at the start", holding("01201201", "01201201" + "3".repeat(8)).distance(0), 0);
    due("distance of a full query at the end", holding("01201201", "3".repeat(8) + "01201201").distance(0), 0);
    due("distance of a full query, a letter changed", holding("01201201", "3330120320133333").distance(0), 1);
    due("distance of a full query, a part of 9 letters", holding("01201201", "3330120312013333").distance(0), 1);
    due("distance of a full query, a part of 7 letters", holding("01201201", "3330121201333333").distance(0), 1);
    due("distance of 0123 in 0133012 (the better of two)", holding("0123", "0133012").distance(0), 1);
  }

  private static void distanceIsNeverMoreThanTheQuery() {
    for (int length = 0; length <= 8; length++) {
      String query = "012012012".substring(0, length);
      due("distance of " + query + " in nothing", holding(query, "").distance(0), length);
      due("distance of " + query + " in 3", holding(query, "3").distance(0), length);
      due("distance of " + query + " in sixteen 3", holding(query, "3".repeat(16)).distance(0), length);
    }
    for (int length = 0; length <= 16; length++) {
      due("distance of eight 1 in " + length + " of them",
          holding("1".repeat(8), "1".repeat(length)).distance(0), length < 8 ? 8 - length : 0);
    }
  }

  // ---- promise 7

  private static void endIsTheLeast() {
    for (int e = 1; e <= 16; e++) {
      String document = "3".repeat(e - 1) + "0" + "3".repeat(16 - e);
      due("end of 0 in " + document, holding("0", document).end(0), e);
    }
    for (int length = 1; length <= 8; length++) {
      String query = "1".repeat(length);
      due("end of " + query + " in sixteen 1", holding(query, "1".repeat(16)).end(0), length);
    }
    due("end of 01 in 3010101", holding("01", "3010101").end(0), 3);
    due("end of 01 in 0, thirteen 3, 01 (not the worse part before)",
        holding("01", "0" + "3".repeat(13) + "01").end(0), 16);
    due("end of 012 in 01, 3, 12 (the first of two with distance 1)", holding("012", "01312").end(0), 2);
  }

  private static void endIsBehindTheLastLetterOfThePart() {
    due("end of 01 in 0122", holding("01", "0122").end(0), 2);
    due("end of a full query at the end", holding("01201201", "3".repeat(8) + "01201201").end(0), 16);
    due("end of a full query at the start", holding("01201201", "01201201" + "3".repeat(8)).end(0), 8);
    due("end of eight 1 in 1", holding("1".repeat(8), "1").end(0), 1);
    due("end of eight 1 in 31", holding("1".repeat(8), "31").end(0), 2);
    NearDocs last = holding("2", "", "", "", "", "", "", "", "3".repeat(15) + "2");
    due("end(7) of 2 as the last letter of the last document", last.end(7), 16);
  }

  private static void theEmptyPartMayEndBehindZeroLetters() {
    for (int length = 0; length <= 8; length++) {
      String query = "012012012".substring(0, length);
      due("end of " + query + " in nothing", holding(query, "").end(0), 0);
      due("end of " + query + " in 3", holding(query, "3").end(0), 0);
      due("end of " + query + " in sixteen 3", holding(query, "3".repeat(16)).end(0), 0);
    }
    due("end of nothing in a full document", holding("", FULL).end(0), 0);
  }

  // ---- promise 8

  private static void wholeTakesEveryLetter() {
    for (int length = 0; length <= 16; length++) {
      String ones = "1".repeat(length);
      due("whole of nothing and " + length + " letters", holding("", ones).whole(0), length);
      due("whole of 1 and " + length + " of them", holding("1", ones).whole(0), length == 0 ? 1 : length - 1);
      due("whole of eight 1 and " + length + " of them",
          holding("1".repeat(8), ones).whole(0), length < 8 ? 8 - length : length - 8);
      due("whole of eight 2 and " + length + " of 1", holding("2".repeat(8), ones).whole(0), Math.max(8, length));
    }
    for (int length = 0; length <= 8; length++) {
      String row = FULL_QUERY.substring(0, length);
      due("whole of " + row + " and nothing", holding(row, "").whole(0), length);
      due("whole of " + row + " and itself", holding(row, row).whole(0), 0);
    }
  }

  // ---- promise 9

  private static void withinNegativeErrors() {
    for (int errors : new int[] {-1, -2, -8, -9, -16, -256, Integer.MIN_VALUE, Integer.MIN_VALUE + 1}) {
      due("within(" + errors + ") of a new object", new NearDocs().within(errors), 0);
      due("within(" + errors + ") for the empty query", holding("", EIGHT_FULL).within(errors), 0);
      due("within(" + errors + ") for a part of all", holding("1", EIGHT_FULL).within(errors), 0);
    }
  }

  private static void withinCountsAtMostErrors() {
    for (int length = 0; length <= 8; length++) {
      String query = "0".repeat(length);
      NearDocs x = holding(query, "", "3", "33", "3".repeat(16), "1", "2", "12", "21");
      due("within(" + (length - 1) + ") for " + length + " letters in no document", x.within(length - 1), 0);
      due("within(" + length + ") for " + length + " letters in no document", x.within(length), 8);
      due("within(" + (length + 1) + ") for " + length + " letters in no document", x.within(length + 1), 8);
    }
    NearDocs steps = holding("0".repeat(8), "0", "00", "000", "0000", "00000", "000000", "0000000", "00000000");
    for (int errors = 0; errors <= 7; errors++) {
      due("within(" + errors + ") with distances 0 to 7", steps.within(errors), errors + 1);
    }
    due("within(8) with distances 0 to 7", steps.within(8), 8);
    due("within(256) with distances 0 to 7", steps.within(256), 8);
    due("within(MAX) with distances 0 to 7", steps.within(Integer.MAX_VALUE), 8);
  }

  private static void withinCountsTheFirstAndTheLastDocument() {
    for (int doc = 0; doc < 8; doc++) {
      NearDocs x = holding("2");
      fill(x, doc, "2");
      due("within(0) with 2 in document " + doc, x.within(0), 1);
      due("within(1) with 2 in document " + doc, x.within(1), 8);
    }
  }

  // ---- promise 10

  private static void nearestIsTheLeast() {
    for (int doc = 0; doc < 8; doc++) {
      NearDocs x = holding("2");
      fill(x, doc, "2");
      due("nearest() with 2 in document " + doc + " alone", x.nearest(), doc);
    }
    NearDocs falling = holding("0".repeat(8), "0", "00", "000", "0000", "00000", "000000", "0000000", "00000000");
    due("nearest() with distances 7 to 0", falling.nearest(), 7);
    NearDocs rising = holding("0".repeat(8), "00000000", "0000000", "000000", "00000", "0000", "000", "00", "0");
    due("nearest() with distances 0 to 7", rising.nearest(), 0);
  }

  private static void nearestOfSeveral() {
    due("nearest() of a new object", new NearDocs().nearest(), 0);
    due("nearest() for the empty query", holding("", EIGHT_FULL).nearest(), 0);
    due("nearest() for a full query and empty documents", holding(FULL_QUERY).nearest(), 0);
    due("nearest() with no letter of the query", holding("0", "", "3", "2", "1").nearest(), 0);
    for (int a = 0; a < 8; a++) {
      for (int b = a + 1; b < 8; b++) {
        NearDocs x = holding("12");
        fill(x, b, "12");
        fill(x, a, "3".repeat(14) + "12");
        due("nearest() with 12 in documents " + a + " and " + b, x.nearest(), a);
      }
    }
  }

  // ---- promise 11

  private static void betweenADocumentAndItself() {
    NearDocs full = holding("33", EIGHT_FULL);
    NearDocs some = holding("33", SOME);
    for (int doc = 0; doc < 8; doc++) {
      due("between(" + doc + ", " + doc + ") when full", full.between(doc, doc), 0);
      due("between(" + doc + ", " + doc + ")", some.between(doc, doc), 0);
    }
  }

  private static void betweenEmptyAndFullDocuments() {
    for (int length = 0; length <= 16; length++) {
      NearDocs x = holding(FULL_QUERY, "1".repeat(length), "", "2".repeat(16), "1".repeat(16));
      due("between of " + length + " letters and nothing", x.between(0, 1), length);
      due("between of nothing and " + length + " letters", x.between(1, 0), length);
      due("between of " + length + " letters 1 and sixteen 2", x.between(0, 2), 16);
      due("between of sixteen 2 and " + length + " letters 1", x.between(2, 0), 16);
      due("between of " + length + " letters 1 and sixteen of them", x.between(0, 3), 16 - length);
    }
    NearDocs ends = holding("", "0", "", "", "", "", "", "", FULL);
    due("between(0, 7)", ends.between(0, 7), 15);
    due("between(7, 0)", ends.between(7, 0), 15);
  }

  // ---- promise 12

  private static void pairsOfTooFewLetters() {
    String[] few = {"", "0"};
    for (String row : few) {
      due("pairs of \"" + row + "\" and sixteen 0", holding(row, "0".repeat(16)).pairs(0), 0);
      due("pairs of eight 0 and \"" + row + "\"", holding("0".repeat(8), row).pairs(0), 0);
      due("pairs of \"" + row + "\" and itself", holding(row, row).pairs(0), 0);
    }
    due("pairs of 00 and 00", holding("00", "00").pairs(0), 1);
  }

  private static void pairsOverAllSixteenRows() {
    for (int a = 0; a < 16; a++) {
      for (int b = 0; b < 16; b++) {
        String query = "" + a / 4 + a % 4;
        String document = "" + b / 4 + b % 4;
        due("pairs of " + query + " and " + document, holding(query, document).pairs(0), a == b ? 1 : 0);
      }
    }
    due("pairs of 00102030 and it with others", holding("00102030", "3333300102030111").pairs(0), 7);
  }

  private static void pairsTakeTheLesserNumber() {
    for (int length = 0; length <= 16; length++) {
      String document = "2".repeat(length);
      due("pairs of 22 and " + length + " letters 2", holding("22", document).pairs(0), length < 2 ? 0 : 1);
      due("pairs of eight 2 and " + length + " letters 2",
          holding("2".repeat(8), document).pairs(0), Math.max(0, Math.min(7, length - 1)));
    }
  }

  private static void pairsOfNeighboursAlone() {
    NearDocs first = holding("01", "01" + "3".repeat(14));
    due("pairs(0) with 01 as its first letters", first.pairs(0), 1);
    NearDocs last = holding("01", "3".repeat(14) + "01");
    due("pairs(0) with 01 as its last letters", last.pairs(0), 1);
    NearDocs over = holding("01", "3".repeat(15) + "0", "1".repeat(16));
    due("pairs(0) with 0 at its end and 1 in document 1", over.pairs(0), 0);
    due("pairs(1) with 0 at the end of document 0", over.pairs(1), 0);
    NearDocs round = holding("01", "1" + "3".repeat(14) + "0");
    due("pairs(0) with 0 at its end and 1 at its start", round.pairs(0), 0);
    NearDocs beside = holding("10", "", "", "", "", "", "", "", "3".repeat(15) + "1");
    due("pairs(7) with 1 at its end", beside.pairs(7), 0);
    due("pairs of 021 and 01 (not neighbours)", holding("021", "01").pairs(0), 0);
  }

  // ---- not promised

  private static void answersChangeNothing() {
    String[][] states = {NONE, SOME, EIGHT_FULL};
    for (String[] documents : states) {
      leaves(x -> {
        for (int doc = 0; doc < documents.length; doc++) {
          fill(x, doc, documents[doc]);
        }
        ask(x, FULL_QUERY);
        for (int doc = 0; doc < 8; doc++) {
          x.distance(doc);
          x.end(doc);
          x.whole(doc);
          x.between(doc, 7 - doc);
          x.pairs(doc);
          x.within(doc - 1);
          x.nearest();
        }
      }, FULL_QUERY, documents);
    }
  }

  private static void terms() {
    test("An object is used for at most 512 calls", BoundaryTest::fiveHundredAndTwelveCalls);
    test("What later calls answer is free", BoundaryTest::laterCallsEnd);
    test("Terms, LETTERS are the numbers 0 to 3", BoundaryTest::fourLetters);
    test("Terms, There are 8 DOCUMENTS, 0 to 7", BoundaryTest::eightDocuments);
    test("Terms, rows of 0 to 16 letters", BoundaryTest::documentsOfNoneToSixteen);
    test("Terms, a QUERY, a row of 0 to 8 letters", BoundaryTest::queryOfNoneToEight);
    test("Terms, all are empty at the start", BoundaryTest::emptyAtTheStart);
    test("Terms, the least number of steps", BoundaryTest::distanceOfEmptyAndFullRows);
    test("Terms, a step takes out one letter", BoundaryTest::aStepTakesOutOneLetter);
    test("Terms, puts in one letter anywhere", BoundaryTest::aStepPutsInOneLetterAnywhere);
    test("Terms, or changes one letter to another", BoundaryTest::aStepChangesOneLetter);
    test("Terms, letters that stand next to each other in it, in their order",
        BoundaryTest::partsOfNeighbouringLettersInTheirOrder);
    test("Terms, the empty row is a part of every document", BoundaryTest::theEmptyRowIsAPart);
    test("Terms, A document number out of range (0 and 7 are in it)", BoundaryTest::firstAndLastNumberAreTaken);
  }

  /** Terms say that such a call answers -1 and changes nothing, and most promises say it again. */
  private static void refusals() {
    test("Terms, A document number out of range is refused", () -> refused("write", (x, doc) -> x.write(doc, 2)));
    test("Promise 3, or -1", () -> refused("wipe", (x, doc) -> x.wipe(doc)));
    test("Promise 6, -1", () -> refused("distance", (x, doc) -> x.distance(doc)));
    test("Promise 7, -1", () -> refused("end", (x, doc) -> x.end(doc)));
    test("Promise 8, -1", () -> refused("whole", (x, doc) -> x.whole(doc)));
    test("Promise 11, -1 (the first)", () -> refused("between", (x, doc) -> x.between(doc, 1)));
    test("Promise 11, -1 (the second)", () -> refused("between", (x, doc) -> x.between(1, doc)));
    test("Promise 11, -1 (both)", () -> refused("between", (x, doc) -> x.between(doc, doc)));
    test("Promise 12, -1", () -> refused("pairs", (x, doc) -> x.pairs(doc)));
  }

  private static void changes() {
    test("Promise 1, All documents and the query are empty", BoundaryTest::newObject);
    test("Promise 2, Adds the letter letter & 3", BoundaryTest::writeMasksTheLetter);
    test("Promise 2, at the end of the document", BoundaryTest::writeAddsAtTheEnd);
    test("Promise 2, Answers how many letters it has then", BoundaryTest::writeAnswersTheNumberOfLetters);
    test("Promise 2, -1, and changes nothing, if it has 16", BoundaryTest::writeIntoAFullDocument);
    test("Promise 3, Makes the document empty", BoundaryTest::wipeMakesEmpty);
    test("Promise 3, Answers how many letters it had (none)", BoundaryTest::wipeOfAnEmptyDocument);
    test("Promise 3, Makes the document empty (and full again)", BoundaryTest::wipedLettersDoNotComeBack);
    test("Promise 4, Adds the letter letter & 3", BoundaryTest::typeMasksTheLetter);
    test("Promise 4, at the end of the query", BoundaryTest::typeAddsAtTheEnd);
    test("Promise 4, Answers how many letters it has then", BoundaryTest::typeAnswersTheNumberOfLetters);
    test("Promise 4, -1, and changes nothing, if it has 8", BoundaryTest::typeIntoAFullQuery);
    test("Promise 5, Makes the query empty", BoundaryTest::clearMakesEmpty);
    test("Promise 5, Makes the query empty (and full again)", BoundaryTest::clearedLettersDoNotComeBack);
  }

  private static void answers() {
    test("Promise 6, The least distance", BoundaryTest::distanceIsTheLeast);
    test("Promise 6, never more than the number of letters of the query",
        BoundaryTest::distanceIsNeverMoreThanTheQuery);
    test("Promise 7, The least number e", BoundaryTest::endIsTheLeast);
    test("Promise 7, if its last letter is the e-th letter", BoundaryTest::endIsBehindTheLastLetterOfThePart);
    test("Promise 7, the empty part may end behind any number of letters, 0 too",
        BoundaryTest::theEmptyPartMayEndBehindZeroLetters);
    test("Promise 8, from the whole document", BoundaryTest::wholeTakesEveryLetter);
    test("Promise 9, 0 if errors is negative", BoundaryTest::withinNegativeErrors);
    test("Promise 9, a distance of at most errors", BoundaryTest::withinCountsAtMostErrors);
    test("Promise 9, How many documents", BoundaryTest::withinCountsTheFirstAndTheLastDocument);
    test("Promise 10, The document with the least distance(doc)", BoundaryTest::nearestIsTheLeast);
    test("Promise 10, of several the one with the least number", BoundaryTest::nearestOfSeveral);
    test("Promise 11, The distance of the two documents (one and the same)",
        BoundaryTest::betweenADocumentAndItself);
    test("Promise 11, The distance of the two documents (empty, full)",
        BoundaryTest::betweenEmptyAndFullDocuments);
    test("Promise 12, every row of two letters (too few)", BoundaryTest::pairsOfTooFewLetters);
    test("Promise 12, summed up over all 16 such rows", BoundaryTest::pairsOverAllSixteenRows);
    test("Promise 12, the lesser of the numbers of times", BoundaryTest::pairsTakeTheLesserNumber);
    test("Promise 12, as two neighbouring letters", BoundaryTest::pairsOfNeighboursAlone);
    test("Nothing is promised beyond the answers and state changes described above",
        BoundaryTest::answersChangeNothing);
  }

  public static void main(String[] args) {
    terms();
    refusals();
    changes();
    answers();
    System.out.println(wrong == 0 ? "all answers are as due" : wrong + " answers are not as due");
    if (wrong != 0) {
      System.exit(1);
    }
  }
}
