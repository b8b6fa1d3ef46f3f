/** The twelve promises one by one, with answers worked out by hand from the document. */
public final class PromisesTest {
  private static final int[] NO_DOCUMENTS = {-1, 8, 9, 16, -8, Integer.MIN_VALUE, Integer.MAX_VALUE};
  private static int wrong = 0;

  private static void due(int promise, String call, int got, int want) {
    if (got != want) {
      wrong++;
      System.out.println("promise " + promise + ": " + call + " answered " + got + ", due is " + want);
    }
  }

  private static void fill(NearDocs x, int doc, String row) {
    for (int i = 0; i < row.length(); i++) {
      x.write(doc, row.charAt(i) - '0');
    }
  }

  private static void ask(NearDocs x, String row) {
    x.clear();
    for (int i = 0; i < row.length(); i++) {
      x.type(row.charAt(i) - '0');
    }
  }

  private static NearDocs with(String document, String query) {
    NearDocs x = new NearDocs();
    fill(x, 0, document);
    ask(x, query);
    return x;
  }

  /** Asks for the contents of a document through the distance 0 to a copy of what is due. */
  private static void holds(int promise, NearDocs x, int doc, int free, String row) {
    x.wipe(free);
    fill(x, free, row);
    due(promise, "between(" + doc + ", " + free + ") with \"" + row + "\" in the second", x.between(doc, free), 0);
    x.wipe(free);
  }

  private static void newObject() {
    NearDocs x = new NearDocs();
    for (int doc = 0; doc < 8; doc++) {
      due(1, "whole(" + doc + ")", x.whole(doc), 0);
      due(1, "wipe(" + doc + ")", x.wipe(doc), 0);
    }
    due(1, "type(0)", x.type(0), 1);
    NearDocs other = new NearDocs();
    due(1, "type(0) on another object", other.type(0), 1);
    due(1, "write(0, 0) on another object", other.write(0, 0), 1);
    due(1, "wipe(0) on the first object", x.wipe(0), 0);
  }

  private static void write() {
    NearDocs x = new NearDocs();
    for (int n = 1; n <= 16; n++) {
      for (int doc = 0; doc < 8; doc++) {
        due(2, "write(" + doc + ", " + (n + doc) + ")", x.write(doc, n + doc), n);
      }
    }
    for (int doc = 0; doc < 8; doc++) {
      due(2, "write(" + doc + ", 0) when full", x.write(doc, 0), -1);
      due(2, "write(" + doc + ", 1) when full", x.write(doc, 1), -1);
    }
    due(2, "type(0) beside full documents", x.type(0), 1);
    due(2, "wipe(6)", x.wipe(6), 16);
    holds(2, x, 0, 6, "1230123012301230");
    holds(2, x, 1, 6, "2301230123012301");
    holds(2, x, 7, 6, "0123012301230123");

    NearDocs masked = new NearDocs();
    due(2, "write(3, -1)", masked.write(3, -1), 1);
    due(2, "write(3, 4)", masked.write(3, 4), 2);
    due(2, "write(3, 6)", masked.write(3, 6), 3);
    due(2, "write(3, MIN)", masked.write(3, Integer.MIN_VALUE), 4);
    due(2, "write(3, MAX)", masked.write(3, Integer.MAX_VALUE), 5);
    due(2, "write(3, -3)", masked.write(3, -3), 6);
    holds(2, masked, 3, 6, "302031");
    for (int doc : NO_DOCUMENTS) {
      due(2, "write(" + doc + ", 1)", masked.write(doc, 1), -1);
    }
    due(2, "whole(3) after refused writes", masked.whole(3), 6);
    due(2, "type(1) after refused writes", masked.type(1), 1);
    for (int doc = 0; doc < 8; doc++) {
      due(2, "wipe(" + doc + ") after refused writes", masked.wipe(doc), doc == 3 ? 6 : 0);
    }
  }

  private static void wipe() {
    NearDocs x = new NearDocs();
    fill(x, 0, "01");
    fill(x, 1, "0123012301230123");
    fill(x, 7, "3");
    ask(x, "22");
    for (int doc : NO_DOCUMENTS) {
      due(3, "wipe(" + doc + ")", x.wipe(doc), -1);
    }
    due(3, "type(2) after refused wipes", x.type(2), 3);
    due(3, "wipe(1)", x.wipe(1), 16);
    due(3, "wipe(1) again", x.wipe(1), 0);
    due(3, "whole(1)", x.whole(1), 3);
    due(3, "write(1, 2)", x.write(1, 2), 1);
    due(3, "whole(1) with one letter", x.whole(1), 2);
    due(3, "wipe(0)", x.wipe(0), 2);
    due(3, "wipe(7)", x.wipe(7), 1);
    due(3, "wipe(1) at last", x.wipe(1), 1);
    due(3, "type(2) after wipes", x.type(2), 4);
  }

  private static void type() {
    NearDocs x = new NearDocs();
    int[] given = {0, 1, 2, 3, -1, 4, Integer.MIN_VALUE, -2};
    for (int n = 0; n < 8; n++) {
      due(4, "type(" + given[n] + ")", x.type(given[n]), n + 1);
    }
    due(4, "type(1) when full", x.type(1), -1);
    due(4, "type(2) when full", x.type(2), -1);
    fill(x, 7, "01233002");
    due(4, "whole(7)", x.whole(7), 0);
    due(4, "wipe(0)", x.wipe(0), 0);
    due(4, "write(7, 0) beside a full query", x.write(7, 0), 9);
  }

  private static void clear() {
    NearDocs x = with("0123", "0123");
    x.clear();
    due(5, "whole(0)", x.whole(0), 4);
    due(5, "distance(0)", x.distance(0), 0);
    due(5, "pairs(0)", x.pairs(0), 0);
    due(5, "type(3)", x.type(3), 1);
    due(5, "distance(0) for 3", x.distance(0), 0);
    due(5, "end(0) for 3", x.end(0), 4);
    x.clear();
    x.clear();
    due(5, "type(0) after two clears", x.type(0), 1);
    ask(x, "01230123");
    due(5, "type(0) when full", x.type(0), -1);
    x.clear();
    due(5, "type(0) after a full query", x.type(0), 1);
    due(5, "wipe(0)", x.wipe(0), 4);
  }

  private static void distance() {
    due(6, "distance of 12 in 0123", with("0123", "12").distance(0), 0);
    due(6, "distance of 0 in nothing", with("", "0").distance(0), 1);
    due(6, "distance of nothing in 0123", with("0123", "").distance(0), 0);
    due(6, "distance of nothing in nothing", with("", "").distance(0), 0);
    due(6, "distance of 02 in 3012 (one letter is missing)", with("3012", "02").distance(0), 1);
    due(6, "distance of 012 in 3023 (one letter is added)", with("3023", "012").distance(0), 1);
    due(6, "distance of 012 in 3032 (one letter is changed)", with("3032", "012").distance(0), 1);
    due(6, "distance of 10 in 01 (no swap step)", with("01", "10").distance(0), 1);
    due(6, "distance of 1023 in 0123 (no swap step)", with("0123", "1023").distance(0), 1);
    due(6, "distance of 3102 in 3012 (no swap step)", with("3012", "3102").distance(0), 2);
    due(6, "distance of 00000000 in 1 sixteen times", with("1111111111111111", "00000000").distance(0), 8);
    due(6, "distance of 01230123 in 3 eight times and it", with("3333333301230123", "01230123").distance(0), 0);
    due(6, "distance of 00000000 in 00", with("00", "00000000").distance(0), 6);
    NearDocs x = new NearDocs();
    fill(x, 7, "2222");
    ask(x, "22");
    due(6, "distance(7)", x.distance(7), 0);
    due(6, "distance(6)", x.distance(6), 2);
    for (int doc : NO_DOCUMENTS) {
      due(6, "distance(" + doc + ")", x.distance(doc), -1);
    }
  }

  private static void end() {
    due(7, "end of 12 in 0123", with("0123", "12").end(0), 3);
    due(7, "end of 12 in 01212 (the first of two)", with("01212", "12").end(0), 3);
    due(7, "end of nothing in 0123", with("0123", "").end(0), 0);
    due(7, "end of 0 in nothing", with("", "0").end(0), 0);
    due(7, "end of 00 in 1111 (the empty part at 0)", with("1111", "00").end(0), 0);
    due(7, "end of 01 in 2220 (one letter is missing)", with("2220", "01").end(0), 4);
    due(7, "end of 01230123 in 3 eight times and it", with("3333333301230123", "01230123").end(0), 16);
    due(7, "end of 2 in 2 sixteen times", with("2222222222222222", "2").end(0), 1);
    due(7, "end of 012 in 013012 (a worse part stands before)", with("013012", "012").end(0), 6);
    due(7, "end of 012 in 0122 (not the part with more letters)", with("0122", "012").end(0), 3);
    due(7, "end of 0123 in 0120 (the shorter part)", with("0120", "0123").end(0), 3);
    NearDocs x = new NearDocs();
    fill(x, 7, "1102");
    ask(x, "02");
    due(7, "end(7)", x.end(7), 4);
    for (int doc : NO_DOCUMENTS) {
      due(7, "end(" + doc + ")", x.end(doc), -1);
    }
  }

  private static void whole() {
    due(8, "whole of 12 and 0123", with("0123", "12").whole(0), 2);
    due(8, "whole of nothing and 0123", with("0123", "").whole(0), 4);
    due(8, "whole of 0123 and nothing", with("", "0123").whole(0), 4);
    due(8, "whole of nothing and nothing", with("", "").whole(0), 0);
    due(8, "whole of 0123 and 0123", with("0123", "0123").whole(0), 0);
    due(8, "whole of 0123 and 1230", with("1230", "0123").whole(0), 2);
    due(8, "whole of 10 and 01 (no swap step)", with("01", "10").whole(0), 2);
    due(8, "whole of 33333333 and 0 sixteen times", with("0000000000000000", "33333333").whole(0), 16);
    due(8, "whole of 00000000 and 0 sixteen times", with("0000000000000000", "00000000").whole(0), 8);
    NearDocs x = with("0", "01");
    for (int doc : NO_DOCUMENTS) {
      due(8, "whole(" + doc + ")", x.whole(doc), -1);
    }
  }

  private static void within() {
    NearDocs x = new NearDocs();
    due(9, "within(0) when all is empty", x.within(0), 8);
    due(9, "within(-1) when all is empty", x.within(-1), 0);
    due(9, "within(MIN) when all is empty", x.within(Integer.MIN_VALUE), 0);
    fill(x, 0, "30123");
    fill(x, 3, "3023");
    fill(x, 7, "1");
    ask(x, "0123");
    due(9, "within(-1)", x.within(-1), 0);
    due(9, "within(0)", x.within(0), 1);
    due(9, "within(1)", x.within(1), 2);
    due(9, "within(2)", x.within(2), 2);
    due(9, "within(3)", x.within(3), 3);
    due(9, "within(4)", x.within(4), 8);
    due(9, "within(MAX)", x.within(Integer.MAX_VALUE), 8);
  }

  private static void nearest() {
    NearDocs x = new NearDocs();
    due(10, "nearest() when all is empty", x.nearest(), 0);
    ask(x, "012");
    due(10, "nearest() when no document has a letter", x.nearest(), 0);
    fill(x, 7, "3");
    due(10, "nearest() when no document has a letter of the query", x.nearest(), 0);
    x.write(7, 0);
    due(10, "nearest() with 30 in 7", x.nearest(), 7);
    fill(x, 4, "2");
    due(10, "nearest() with 2 in 4 too", x.nearest(), 4);
    x.write(7, 1);
    due(10, "nearest() with 301 in 7", x.nearest(), 7);
    fill(x, 5, "3330123");
    due(10, "nearest() with 3330123 in 5", x.nearest(), 5);
    fill(x, 6, "012");
    due(10, "nearest() with 012 in 6 (the least number, not the least whole)", x.nearest(), 5);
    x.clear();
    due(10, "nearest() for the empty query", x.nearest(), 0);
  }

  private static void between() {
    NearDocs x = new NearDocs();
    fill(x, 0, "0123");
    fill(x, 1, "023");
    fill(x, 2, "0000000000000000");
    fill(x, 7, "1111111111111111");
    fill(x, 6, "1230");
    ask(x, "3333");
    due(11, "between(0, 1)", x.between(0, 1), 1);
    due(11, "between(1, 0)", x.between(1, 0), 1);
    due(11, "between(0, 0)", x.between(0, 0), 0);
    due(11, "between(0, 6)", x.between(0, 6), 2);
    due(11, "between(2, 7)", x.between(2, 7), 16);
    due(11, "between(7, 0)", x.between(7, 0), 15);
    due(11, "between(3, 7)", x.between(3, 7), 16);
    due(11, "between(7, 3)", x.between(7, 3), 16);
    due(11, "between(3, 4)", x.between(3, 4), 0);
    for (int doc : NO_DOCUMENTS) {
      due(11, "between(" + doc + ", 0)", x.between(doc, 0), -1);
      due(11, "between(0, " + doc + ")", x.between(0, doc), -1);
      due(11, "between(" + doc + ", " + doc + ")", x.between(doc, doc), -1);
    }
  }

  private static void pairs() {
    due(12, "pairs of 0123 and 0123", with("0123", "0123").pairs(0), 3);
    due(12, "pairs of 0123 and 3210 (their order counts)", with("3210", "0123").pairs(0), 0);
    due(12, "pairs of 000 and 00 (pairs may overlap)", with("00", "000").pairs(0), 1);
    due(12, "pairs of 000 and 0000", with("0000", "000").pairs(0), 2);
    due(12, "pairs of 3131 and 1313", with("1313", "3131").pairs(0), 2);
    due(12, "pairs of 31 and 3131 (the lesser number)", with("3131", "31").pairs(0), 1);
    due(12, "pairs of 33333333 and 3 sixteen times", with("3333333333333333", "33333333").pairs(0), 7);
    due(12, "pairs of 01 and 0021 (neighbours alone)", with("0021", "01").pairs(0), 0);
    due(12, "pairs of 0 and 00", with("00", "0").pairs(0), 0);
    due(12, "pairs of 00 and 0", with("0", "00").pairs(0), 0);
    due(12, "pairs of nothing and nothing", with("", "").pairs(0), 0);
    for (int pair = 0; pair < 16; pair++) {
      String row = "" + (pair / 4) + (pair % 4);
      due(12, "pairs of " + row + " and " + row, with(row, row).pairs(0), 1);
    }
    NearDocs x = new NearDocs();
    fill(x, 7, "2012");
    ask(x, "12");
    due(12, "pairs(7)", x.pairs(7), 1);
    due(12, "pairs(0)", x.pairs(0), 0);
    x.wipe(7);
    due(12, "pairs(7) after wipe", x.pairs(7), 0);
    for (int doc : NO_DOCUMENTS) {
      due(12, "pairs(" + doc + ")", x.pairs(doc), -1);
    }
  }

  public static void main(String[] args) {
    newObject();
    write();
    wipe();
    type();
    clear();
    distance();
    end();
    whole();
    within();
    nearest();
    between();
    pairs();
    System.out.println(wrong == 0 ? "all answers are as due" : wrong + " answers are not as due");
    if (wrong != 0) {
      System.exit(1);
    }
  }
}
