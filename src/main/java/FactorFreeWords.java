/**
 * Words that avoid some forbidden pieces: how many there are, and which is which.
 *
 * The document gives a piece the number 3^k plus its code. Inside this class every word has
 * its number made in that way, the empty word 1 among them: the leading 1 keeps the letters 0
 * at the front apart from no letters, and number / 3 is the word without its last letter.
 */
public final class FactorFreeWords {
    private static final int LETTERS = 3;
    private static final int EMPTY_WORD = 1;
    private static final int LONGEST_PIECE = 4;
    private static final int MOST_PIECES = 6;
    private static final int MOST_LENGTH = 9;
    private static final int MOST_COUNTED_LENGTH = 30;
    private static final int PIECE_NUMBERS = 162;
    private static final int TAIL_NUMBERS = 54;
    private static final int THREE_LETTERS = 27;

    private final boolean[] forbidden = new boolean[PIECE_NUMBERS];
    private int forbiddenPieces;

    // Only for the time of one counting; a method may not make arrays of its own.
    private final long[] wordsByTail = new long[TAIL_NUMBERS];
    private final long[] longerByTail = new long[TAIL_NUMBERS];

    public FactorFreeWords() {
        forbiddenPieces = 0;
    }

    public int forbid(int piece) {
        if (!isPiece(piece)) {
            return -1;
        }
        if (forbidden[piece]) {
            return -2;
        }
        if (forbiddenPieces >= MOST_PIECES) {
            return -3;
        }
        forbidden[piece] = true;
        forbiddenPieces++;
        return forbiddenPieces;
    }

    public int permit(int piece) {
        if (!isPiece(piece) || !forbidden[piece]) {
            return -1;
        }
        forbidden[piece] = false;
        forbiddenPieces--;
        return forbiddenPieces;
    }

    public int pieces() {
        return forbiddenPieces;
    }

    public int allowed(int n, int code) {
        if (!isLength(n)) {
            return -1;
        }
        if (!isCode(n, code)) {
            return -2;
        }
        return isAllowed(n, code) ? 1 : 0;
    }

    public long count(int n) {
        if (n < 0 || n > MOST_COUNTED_LENGTH) {
            return -1;
        }
        return allowedWords(n);
    }

    public int countWith(int n, int k) {
        if (!isLength(n)) {
            return -1;
        }
        if (k < 0 || k > MOST_LENGTH) {
            return -2;
        }
        int words = power(n);
        int found = 0;
        for (int code = 0; code < words; code++) {
            if (zeros(n, code) == k && isAllowed(n, code)) {
                found++;
            }
        }
        return found;
    }

    public int rank(int n, int code) {
        if (!isLength(n)) {
            return -1;
        }
        if (!isCode(n, code)) {
            return -2;
        }
        int found = 0;
        for (int lower = 0; lower < code; lower++) {
            if (isAllowed(n, lower)) {
                found++;
            }
        }
        return found;
    }

    public int word(int n, int i) {
        if (!isLength(n)) {
            return -1;
        }
        int words = power(n);
        int found = 0;
        for (int code = 0; code < words; code++) {
            if (isAllowed(n, code)) {
                if (found == i) {
                    return code;
                }
                found++;
            }
        }
        return -2;
    }

    public int next(int n, int after) {
        if (!isLength(n)) {
            return -1;
        }
        int words = power(n);
        // Starting at after + 1 would wrap around for the greatest int.
        for (int code = 0; code < words; code++) {
            if (code > after && isAllowed(n, code)) {
                return code;
            }
        }
        return -2;
    }

    public int beginning(int n, int piece) {
        if (!isLength(n)) {
            return -1;
        }
        if (!isPiece(piece)) {
            return -2;
        }
        int rest = n - pieceLength(piece);
        return rest < 0 ? 0 : allowedWithPieceBefore(n, piece, rest);
    }

    public int ending(int n, int piece) {
        if (!isLength(n)) {
            return -1;
        }
        if (!isPiece(piece)) {
            return -2;
        }
        return n < pieceLength(piece) ? 0 : allowedWithPieceBefore(n, piece, 0);
    }

    public int standing(int n, int piece) {
        if (!isLength(n)) {
            return -1;
        }
        if (!isPiece(piece)) {
            return -2;
        }
        int mostAfter = n - pieceLength(piece);
        int places = 0;
        for (int lettersAfter = 0; lettersAfter <= mostAfter; lettersAfter++) {
            places += allowedWithPieceBefore(n, piece, lettersAfter);
        }
        return places;
    }

    public int longest() {
        int length = 0;
        for (int n = 1; n <= MOST_LENGTH; n++) {
            if (allowedWords(n) > 0) {
                length = n;
            }
        }
        return length;
    }

    public int choices(int n, int code) {
        if (!isLength(n)) {
            return -1;
        }
        if (!isCode(n, code)) {
            return -2;
        }
        if (!isAllowed(n, code)) {
            return 0;
        }
        int number = power(n) + code;
        int found = 0;
        for (int letter = 0; letter < LETTERS; letter++) {
            if (!endsForbidden(number * LETTERS + letter)) {
                found++;
            }
        }
        return found;
    }

    public int mirrored(int n) {
        if (!isLength(n)) {
            return -1;
        }
        int words = power(n);
        int found = 0;
        for (int code = 0; code < words; code++) {
            if (backward(n, code) == code && isAllowed(n, code)) {
                found++;
            }
        }
        return found;
    }

    private static boolean isLength(int n) {
        return n >= 0 && n <= MOST_LENGTH;
    }

    private static boolean isCode(int n, int code) {
        return code >= 0 && code < power(n);
    }

    private static boolean isPiece(int piece) {
        return pieceLength(piece) > 0;
    }

    /** The length of the piece of this number, 0 if it is not the number of a piece. */
    private static int pieceLength(int piece) {
        int first = EMPTY_WORD;
        for (int length = 1; length <= LONGEST_PIECE; length++) {
            first *= LETTERS;
            if (piece >= first && piece < 2 * first) {
                return length;
            }
        }
        return 0;
    }

    /** 3^n, which is how many words of length n there are and the number of the first of them. */
    private static int power(int n) {
        int product = 1;
        for (int step = 0; step < n; step++) {
            product *= LETTERS;
        }
        return product;
    }

    private static int zeros(int n, int code) {
        int rest = code;
        int found = 0;
        for (int step = 0; step < n; step++) {
            if (rest % LETTERS == 0) {
                found++;
            }
            rest /= LETTERS;
        }
        return found;
    }

    private static int backward(int n, int code) {
        int rest = code;
        int reversed = 0;
        for (int step = 0; step < n; step++) {
            reversed = reversed * LETTERS + rest % LETTERS;
            rest /= LETTERS;
        }
        return reversed;
    }

    private boolean isAllowed(int n, int code) {
        int number = power(n) + code;
        for (int step = 0; step < n; step++) {
            if (endsForbidden(number)) {
                return false;
            }
            number /= LETTERS;
        }
        return true;
    }

    private boolean endsForbidden(int number) {
        int first = EMPTY_WORD;
        for (int length = 1; length <= LONGEST_PIECE; length++) {
            first *= LETTERS;
            // A number below 3^length is that of a word with fewer letters.
            if (number >= first && forbidden[first + number % first]) {
                return true;
            }
        }
        return false;
    }

    /** How many allowed words of length n have the piece with just so many letters after it. */
    private int allowedWithPieceBefore(int n, int piece, int lettersAfter) {
        int words = power(n);
        int shift = power(lettersAfter);
        int length = pieceLength(piece);
        int first = power(length);
        int found = 0;
        for (int code = 0; code < words; code++) {
            if (first + (code / shift) % first == piece && isAllowed(n, code)) {
                found++;
            }
        }
        return found;
    }

    /** Counts by the last three letters: with the next one they show any piece that ends there. */
    private long allowedWords(int n) {
        for (int tail = 0; tail < TAIL_NUMBERS; tail++) {
            wordsByTail[tail] = 0;
        }
        wordsByTail[EMPTY_WORD] = 1;
        for (int step = 0; step < n; step++) {
            lengthenByOne();
        }
        long sum = 0;
        for (int tail = 0; tail < TAIL_NUMBERS; tail++) {
            sum += wordsByTail[tail];
        }
        return sum;
    }

    private void lengthenByOne() {
        for (int tail = 0; tail < TAIL_NUMBERS; tail++) {
            longerByTail[tail] = 0;
        }
        for (int tail = EMPTY_WORD; tail < TAIL_NUMBERS; tail++) {
            for (int letter = 0; letter < LETTERS; letter++) {
                int number = tail * LETTERS + letter;
                if (wordsByTail[tail] > 0 && !endsForbidden(number)) {
                    int newTail = lastThreeLetters(number);
                    longerByTail[newTail] += wordsByTail[tail];
                }
            }
        }
        for (int tail = 0; tail < TAIL_NUMBERS; tail++) {
            wordsByTail[tail] = longerByTail[tail];
        }
    }

    private static int lastThreeLetters(int number) {
        return number < TAIL_NUMBERS ? number : THREE_LETTERS + number % THREE_LETTERS;
    }
}
