import java.util.ArrayDeque;
import java.util.ArrayList;
import java.util.HashMap;
import java.util.List;
import java.util.Map;

/**
 * Compares NearDocs with models that follow the document's words: the distance by
 * walking through all rows step by step, parts by trying every one of them.
 */
public final class ModelTest {
  private static final int CALLS_OF_ONE_OBJECT = 512;
  private static final int RUNS = 400;
  private static final int SHORT_ROW = 3;
  private static int wrong = 0;
  private static long state = 1;

  private static void due(String call, int got, int want) {
    if (got != want) {
      wrong++;
      if (wrong <= 20) {
        System.out.println(call + " answered " + got + ", due is " + want);
      }
    }
  }

  /** A fixed row of numbers, so that a run that fails fails again. */
  private static int next(int bound) {
    state = state * 6364136223846793005L + 1442695040888963407L;
    return (int) ((state >>> 33) % bound);
  }

  private static List<String> rowsUpTo(int length) {
    List<String> rows = new ArrayList<>();
    rows.add("");
    for (int i = 0; i < rows.size() && rows.get(i).length() < length; i++) {
      for (char letter = '0'; letter <= '3'; letter++) {
        rows.add(rows.get(i) + letter);
      }
    }
    return rows;
  }

  private static List<String> oneStepFrom(String row) {
    List<String> rows = new ArrayList<>();
    for (int i = 0; i <= row.length(); i++) {
      String before = row.substring(0, i);
      for (char letter = '0'; letter <= '3'; letter++) {
        rows.add(before + letter + row.substring(i));
        if (i < row.length()) {
          rows.add(before + letter + row.substring(i + 1));
        }
      }
      if (i < row.length()) {
        rows.add(before + row.substring(i + 1));
      }
    }
    return rows;
  }

  /** Rows one letter longer than the longest asked for are walked through too. */
  private static Map<String, Integer> stepsFrom(String start) {
    Map<String, Integer> steps = new HashMap<>();
    ArrayDeque<String> waiting = new ArrayDeque<>();
    steps.put(start, 0);
    waiting.add(start);
    while (!waiting.isEmpty()) {
      String row = waiting.remove();
      for (String other : oneStepFrom(row)) {
        if (other.length() <= SHORT_ROW + 1 && !steps.containsKey(other)) {
          steps.put(other, steps.get(row) + 1);
          waiting.add(other);
        }
      }
    }
    return steps;
  }

  private static void shortRowsStepByStep() {
    List<String> rows = rowsUpTo(SHORT_ROW);
    for (String a : rows) {
      Map<String, Integer> steps = stepsFrom(a);
      for (String b : rows) {
        NearDocs x = new NearDocs();
        a.chars().forEach(letter -> x.write(2, letter - '0'));
        a.chars().forEach(letter -> x.type(letter - '0'));
        b.chars().forEach(letter -> x.write(5, letter - '0'));
        String call = " of \"" + a + "\" and \"" + b + "\"";
        due("between" + call, x.between(2, 5), steps.get(b));
        due("whole" + call, x.whole(5), steps.get(b));
        due("model" + call, modelDistance(a, b), steps.get(b));
      }
    }
  }

  private static int modelDistance(String a, String b) {
    int[][] cost = new int[a.length() + 1][b.length() + 1];
    for (int i = a.length(); i >= 0; i--) {
      for (int j = b.length(); j >= 0; j--) {
        if (i == a.length() || j == b.length()) {
          cost[i][j] = a.length() - i + b.length() - j;
        } else if (a.charAt(i) == b.charAt(j)) {
          cost[i][j] = cost[i + 1][j + 1];
        } else {
          cost[i][j] = 1 + Math.min(cost[i + 1][j + 1], Math.min(cost[i + 1][j], cost[i][j + 1]));
        }
      }
    }
    return cost[0][0];
  }

  private static int modelPartDistance(String document, String query) {
    int least = Integer.MAX_VALUE;
    for (int end = 0; end <= document.length(); end++) {
      for (int start = 0; start <= end; start++) {
        least = Math.min(least, modelDistance(document.substring(start, end), query));
      }
    }
    return least;
  }

  private static int modelEnd(String document, String query) {
    int least = modelPartDistance(document, query);
    for (int end = 0; end <= document.length(); end++) {
      for (int start = 0; start <= end; start++) {
        if (modelDistance(document.substring(start, end), query) == least) {
          return end;
        }
      }
    }
    return -2;
  }

  private static int modelPairs(String document, String query) {
    List<String> left = new ArrayList<>();
    for (int i = 0; i + 2 <= document.length(); i++) {
      left.add(document.substring(i, i + 2));
    }
    int common = 0;
    for (int i = 0; i + 2 <= query.length(); i++) {
      if (left.remove(query.substring(i, i + 2))) {
        common++;
      }
    }
    return common;
  }

  private static int modelWithin(String[] documents, String query, int errors) {
    int count = 0;
    for (String document : documents) {
      count += modelPartDistance(document, query) <= errors ? 1 : 0;
    }
    return count;
  }

  private static int modelNearest(String[] documents, String query) {
    int best = 7;
    for (int doc = 6; doc >= 0; doc--) {
      if (modelPartDistance(documents[doc], query) <= modelPartDistance(documents[best], query)) {
        best = doc;
      }
    }
    return best;
  }

  private static int someDocument() {
    return next(20) == 0 ? next(2) * 11 - 3 + next(3) : next(8);
  }

  private static boolean isDocument(int doc) {
    return 0 <= doc && doc <= 7;
  }

  /** Few kinds of letters in some runs, so that near matches are common. */
  private static int someLetter(int kinds) {
    return next(kinds) + 4 * (next(7) - 3);
  }

  private static void longRun(int run) {
    NearDocs x = new NearDocs();
    String[] documents = {"", "", "", "", "", "", "", ""};
    String query = "";
    int kinds = 1 + next(4);
    int writes = 20 + next(60);
    for (int call = 0; call < CALLS_OF_ONE_OBJECT; call++) {
      String at = "run " + run + ", call " + call + ": ";
      int doc = someDocument();
      boolean known = isDocument(doc);
      String document = known ? documents[doc] : "";
      if (next(100) < writes) {
        int letter = someLetter(kinds);
        boolean fits = known && document.length() < 16;
        due(at + "write(" + doc + ", " + letter + ")", x.write(doc, letter), fits ? document.length() + 1 : -1);
        if (fits) {
          documents[doc] = document + (letter & 3);
        }
        continue;
      }
      switch (next(14)) {
        case 0:
          if (next(3) == 0) {
            due(at + "wipe(" + doc + ")", x.wipe(doc), known ? document.length() : -1);
            if (known) {
              documents[doc] = "";
            }
          }
          break;
        case 1:
          if (next(3) == 0) {
            x.clear();
            query = "";
          }
          break;
        case 2:
        case 3:
        case 4:
          int letter = someLetter(kinds);
          boolean fits = query.length() < 8;
          due(at + "type(" + letter + ")", x.type(letter), fits ? query.length() + 1 : -1);
          query = fits ? query + (letter & 3) : query;
          break;
        case 5:
        case 6:
          due(at + "distance(" + doc + ")", x.distance(doc), known ? modelPartDistance(document, query) : -1);
          break;
        case 7:
        case 8:
          due(at + "end(" + doc + ")", x.end(doc), known ? modelEnd(document, query) : -1);
          break;
        case 9:
          due(at + "whole(" + doc + ")", x.whole(doc), known ? modelDistance(document, query) : -1);
          break;
        case 10:
          int errors = next(11) - 1;
          due(at + "within(" + errors + ")", x.within(errors), modelWithin(documents, query, errors));
          break;
        case 11:
          due(at + "nearest()", x.nearest(), modelNearest(documents, query));
          break;
        case 12:
          int other = someDocument();
          boolean both = known && isDocument(other);
          due(at + "between(" + doc + ", " + other + ")", x.between(doc, other),
              both ? modelDistance(document, documents[other]) : -1);
          break;
        default:
          due(at + "pairs(" + doc + ")", x.pairs(doc), known ? modelPairs(document, query) : -1);
          break;
      }
    }
  }

  public static void main(String[] args) {
    shortRowsStepByStep();
    for (int run = 0; run < RUNS; run++) {
      longRun(run);
    }
    System.out.println(wrong == 0 ? "all answers are as due" : wrong + " answers are not as due");
    if (wrong != 0) {
      System.exit(1);
    }
  }
}
