/** Eight short documents and a query that is looked for in them with errors allowed. */
public final class NearDocs {
  private static final int DOCUMENTS = 8;
  private static final int DOCUMENT_CAPACITY = 16;
  private static final int QUERY_CAPACITY = 8;
  private static final int LETTER_MASK = 3;
  private static final int LETTER_PAIRS = 16;

  // The query is kept as one more row behind the documents, so that two documents
  // and a document and the query are compared by the same code.
  private static final int QUERY = DOCUMENTS;
  private static final int ROWS = DOCUMENTS + 1;
  private static final int CELLS = ROWS * DOCUMENT_CAPACITY;
  private static final int COLUMN_CELLS = DOCUMENT_CAPACITY + 1;

  private final int[] letters = new int[CELLS];
  private final int[] lengths = new int[ROWS];

  // Scratch space of one comparison: nothing in it outlives a public call.
  private final int[] column = new int[COLUMN_CELLS];

  public NearDocs() {
  }

  public int write(int doc, int letter) {
    if (!isDocument(doc)) {
      return -1;
    }
    return append(doc, letter, DOCUMENT_CAPACITY);
  }

  public int wipe(int doc) {
    if (!isDocument(doc)) {
      return -1;
    }
    int had = lengths[doc];
    lengths[doc] = 0;
    return had;
  }

  public int type(int letter) {
    return append(QUERY, letter, QUERY_CAPACITY);
  }

  public void clear() {
    lengths[QUERY] = 0;
  }

  public int distance(int doc) {
    if (!isDocument(doc)) {
      return -1;
    }
    return leastPartDistance(doc);
  }

  public int end(int doc) {
    if (!isDocument(doc)) {
      return -1;
    }
    int least = leastPartDistance(doc);
    return firstEndWithin(doc, least);
  }

  public int whole(int doc) {
    if (!isDocument(doc)) {
      return -1;
    }
    return rowDistance(QUERY, doc);
  }

  public int within(int errors) {
    int count = 0;
    for (int doc = 0; doc < DOCUMENTS; doc++) {
      if (leastPartDistance(doc) <= errors) {
        count++;
      }
    }
    return count;
  }

  public int nearest() {
    int best = 0;
    int least = leastPartDistance(0);
    for (int doc = 1; doc < DOCUMENTS; doc++) {
      int found = leastPartDistance(doc);
      if (found < least) {
        least = found;
        best = doc;
      }
    }
    return best;
  }

  public int between(int a, int b) {
    if (!isDocument(a) || !isDocument(b)) {
      return -1;
    }
    return rowDistance(a, b);
  }

  public int pairs(int doc) {
    if (!isDocument(doc)) {
      return -1;
    }
    int sum = 0;
    for (int pair = 0; pair < LETTER_PAIRS; pair++) {
      int inQuery = countPair(QUERY, pair);
      int inDocument = countPair(doc, pair);
      sum += lesser(inQuery, inDocument);
    }
    return sum;
  }

  private static boolean isDocument(int doc) {
    return doc >= 0 && doc < DOCUMENTS;
  }

  private static int lesser(int a, int b) {
    return a < b ? a : b;
  }

  private int letterAt(int row, int place) {
    return letters[row * DOCUMENT_CAPACITY + place];
  }

  private int append(int row, int letter, int capacity) {
    int length = lengths[row];
    if (length >= capacity) {
      return -1;
    }
    letters[row * DOCUMENT_CAPACITY + length] = letter & LETTER_MASK;
    lengths[row] = length + 1;
    return length + 1;
  }

  private int countPair(int row, int pair) {
    int length = lengths[row];
    int count = 0;
    for (int place = 1; place < length; place++) {
      int first = letterAt(row, place - 1);
      int second = letterAt(row, place);
      if (first * (LETTER_MASK + 1) + second == pair) {
        count++;
      }
    }
    return count;
  }

  private int rowDistance(int a, int b) {
    int length = lengths[b];
    startColumn(a);
    for (int read = 1; read <= length; read++) {
      int letter = letterAt(b, read - 1);
      advanceColumn(a, letter, read);
    }
    return column[lengths[a]];
  }

  private int leastPartDistance(int doc) {
    int length = lengths[doc];
    int bottom = lengths[QUERY];
    startColumn(QUERY);
    int least = column[bottom];
    for (int read = 1; read <= length; read++) {
      int letter = letterAt(doc, read - 1);
      // A part may begin anywhere, so the letters before it cost nothing.
      advanceColumn(QUERY, letter, 0);
      least = lesser(least, column[bottom]);
    }
    return least;
  }

  private int firstEndWithin(int doc, int wanted) {
    int length = lengths[doc];
    int bottom = lengths[QUERY];
    startColumn(QUERY);
    int read = 0;
    while (read < length && column[bottom] > wanted) {
      int letter = letterAt(doc, read);
      advanceColumn(QUERY, letter, 0);
      read++;
    }
    return read;
  }

  // column[i] is what it costs to turn the first i letters of the row into the
  // letters read so far; before anything is read, all i must be taken out.
  private void startColumn(int row) {
    int length = lengths[row];
    for (int i = 0; i <= length; i++) {
      column[i] = i;
    }
  }

  private void advanceColumn(int row, int letter, int top) {
    int length = lengths[row];
    int diagonal = column[0];
    column[0] = top;
    for (int i = 1; i <= length; i++) {
      int left = column[i];
      int changed = letterAt(row, i - 1) == letter ? diagonal : diagonal + 1;
      int takenOrPutIn = lesser(left, column[i - 1]) + 1;
      column[i] = lesser(changed, takenOrPutIn);
      diagonal = left;
    }
  }
}
