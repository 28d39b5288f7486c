import java.util.ArrayList;
import java.util.Arrays;
import java.util.List;

/**
 * One test for each sentence of the document that names a boundary case, under that sentence.
 * A boundary is asked from both sides: the last good value and the first bad one, and the least
 * and the greatest int among the bad ones.
 */
public final class BoundaryTest {
    private static final int MIN = Integer.MIN_VALUE;
    private static final int MAX = Integer.MAX_VALUE;

    private static final int[] BAD_LENGTHS = {MIN, MIN + 1, -2, -1, 10, 11, 30, 31, MAX - 1, MAX};
    private static final int[] BAD_PIECES = {
        MIN, MIN + 1, -161, -81, -3, -1, 0, 1, 2, 6, 7, 8, 18, 19, 25, 26, 54, 55, 79, 80, 162, 163,
        242, 243, 485, 486, MAX - 1, MAX,
    };
    private static final int[] EDGE_PIECES = {3, 5, 9, 17, 27, 53, 81, 161};

    // A list that leaves no room for another piece, with pieces of all lengths in it.
    private static final int[] FULL = {5, 9, 32, 49, 85, 117};

    // How many words of each length 0 .. 9 there are.
    private static final int[] WORDS = {1, 3, 9, 27, 81, 243, 729, 2187, 6561, 19683};

    private static String sentence = "";
    private static int checks = 0;
    private static int sentences = 0;
    private static int wrong = 0;

    private interface Question {
        long ask(FactorFreeWords x, int a, int b);
    }

    private static final class Method {
        final String name;
        final Question question;

        Method(String name, Question question) {
            this.name = name;
            this.question = question;
        }
    }

    private static final Method FORBID = new Method("forbid", (x, a, b) -> x.forbid(a));
    private static final Method PERMIT = new Method("permit", (x, a, b) -> x.permit(a));
    private static final Method PIECES = new Method("pieces", (x, a, b) -> x.pieces());
    private static final Method ALLOWED = new Method("allowed", (x, a, b) -> x.allowed(a, b));
    private static final Method COUNT = new Method("count", (x, a, b) -> x.count(a));
    private static final Method COUNT_WITH = new Method("countWith", (x, a, b) -> x.countWith(a, b));
    private static final Method RANK = new Method("rank", (x, a, b) -> x.rank(a, b));
    private static final Method WORD = new Method("word", (x, a, b) -> x.word(a, b));
    private static final Method NEXT = new Method("next", (x, a, b) -> x.next(a, b));
    private static final Method BEGINNING = new Method("beginning", (x, a, b) -> x.beginning(a, b));
    private static final Method ENDING = new Method("ending", (x, a, b) -> x.ending(a, b));
    private static final Method STANDING = new Method("standing", (x, a, b) -> x.standing(a, b));
    private static final Method LONGEST = new Method("longest", (x, a, b) -> x.longest());
    private static final Method CHOICES = new Method("choices", (x, a, b) -> x.choices(a, b));
    private static final Method MIRRORED = new Method("mirrored", (x, a, b) -> x.mirrored(a));

    private static final Method[] WITH_LENGTH = {
        ALLOWED, COUNT_WITH, RANK, WORD, NEXT, BEGINNING, ENDING, STANDING, CHOICES, MIRRORED,
    };

    private static void due(String call, long got, long want) {
        checks++;
        if (got != want) {
            wrong++;
            System.out.println(sentence + ": " + call + " answered " + got + ", due is " + want);
        }
    }

    private static void due(FactorFreeWords x, Method method, int a, int b, long want) {
        due(method.name + "(" + a + ", " + b + ")", method.question.ask(x, a, b), want);
    }

    private static void test(String words, Runnable body) {
        sentence = words;
        sentences++;
        int before = checks;
        body.run();
        if (checks == before) {
            wrong++;
            System.out.println(sentence + ": nothing was asked");
        }
    }

    private static FactorFreeWords with(int... pieces) {
        FactorFreeWords x = new FactorFreeWords();
        for (int piece : pieces) {
            x.forbid(piece);
        }
        return x;
    }

    /** No letter is left, so that no word but the empty one is allowed. */
    private static FactorFreeWords withoutLetters() {
        return with(3, 4, 5);
    }

    private static FactorFreeWords full() {
        return with(FULL);
    }

    /** The number of the piece with these letters. */
    private static int piece(String letters) {
        return Integer.parseInt("1" + letters, 3);
    }

    private static int code(String letters) {
        return Integer.parseInt(letters, 3);
    }

    private static boolean isPiece(int number) {
        return 3 <= number && number <= 5 || 9 <= number && number <= 17
                || 27 <= number && number <= 53 || 81 <= number && number <= 161;
    }

    private static int lengthOfPiece(int number) {
        return number < 9 ? 1 : number < 27 ? 2 : number < 81 ? 3 : 4;
    }

    // ---- Terms ----

    private static void lengths() {
        for (Method method : WITH_LENGTH) {
            for (int n = -40; n <= 40; n++) {
                boolean good = 0 <= n && n <= 9;
                long got = method.question.ask(new FactorFreeWords(), n, 3);
                due(method.name + "(" + n + ", 3) answering -1", got == -1 ? 1 : 0, good ? 0 : 1);
            }
        }
    }

    private static void numbersOfPieces() {
        for (int number = -300; number <= 800; number++) {
            boolean good = isPiece(number);
            due("forbid(" + number + ")", new FactorFreeWords().forbid(number), good ? 1 : -1);
            FactorFreeWords listed = with(number);
            due("permit(" + number + ") after forbid", listed.permit(number), good ? 0 : -1);
            FactorFreeWords x = new FactorFreeWords();
            long one = good ? 1 : -2;
            int n = good ? lengthOfPiece(number) : 4;
            due(x, BEGINNING, n, number, one);
            due(x, ENDING, n, number, one);
            due(x, STANDING, n, number, one);
        }
    }

    private static void codes() {
        FactorFreeWords x = with(piece("01"), piece("2221"));
        due("01 by its code", x.allowed(2, 1), 0);
        due("10 by its code", x.allowed(2, 3), 1);
        due("2221 by its code", x.allowed(4, 79), 0);
        due("1222 by its code", x.allowed(4, 53), 1);
        due("the first word of length 2", x.word(2, 0), 0);
        due("the second, 02", x.word(2, 1), 2);
        for (int n = 0; n <= 9; n++) {
            // The last code is that of a row of letters 2, the first one that of a row of letters 0.
            due(with(3, 4), ALLOWED, n, WORDS[n] - 1, 1);
            due(with(4, 5), ALLOWED, n, 0, 1);
            due(with(3, 4), ALLOWED, n, WORDS[n], -2);
            due(with(4, 5), ALLOWED, n, -1, -2);
        }
    }

    /** All answers to questions, and at the end the list itself, by taking every piece out of it. */
    private static List<Long> everythingOf(FactorFreeWords x) {
        List<Long> answers = new ArrayList<>();
        answers.add((long) x.pieces());
        for (int n = 0; n <= 30; n++) {
            answers.add(x.count(n));
        }
        for (int code = 0; code < WORDS[4]; code++) {
            answers.add((long) x.allowed(4, code));
        }
        answers.add((long) x.longest());
        for (int n = 0; n <= 9; n++) {
            answers.add((long) x.mirrored(n));
            answers.add((long) x.rank(n, WORDS[n] - 1));
        }
        for (int number = 3; number <= 161; number++) {
            answers.add((long) x.permit(number));
        }
        return answers;
    }

    private static void changesNothing(Method method, int a, int b, int... list) {
        FactorFreeWords asked = with(list);
        method.question.ask(asked, a, b);
        // Asked twice: the first time may leave something behind that the second one meets.
        method.question.ask(asked, a, b);
        boolean same = everythingOf(asked).equals(everythingOf(with(list)));
        due("the state after " + method.name + "(" + a + ", " + b + ") with " + Arrays.toString(list)
                + " being the same", same ? 1 : 0, 1);
    }

    private static void questionsChangeNothing() {
        for (int[] list : new int[][] {{}, {9, 13, 17}, FULL}) {
            changesNothing(PIECES, 0, 0, list);
            changesNothing(LONGEST, 0, 0, list);
            for (int n : new int[] {0, 1, 9}) {
                changesNothing(ALLOWED, n, WORDS[n] - 1, list);
                changesNothing(COUNT, n, 0, list);
                changesNothing(COUNT_WITH, n, 0, list);
                changesNothing(RANK, n, WORDS[n] - 1, list);
                changesNothing(WORD, n, 0, list);
                changesNothing(NEXT, n, -1, list);
                changesNothing(BEGINNING, n, 3, list);
                changesNothing(ENDING, n, 9, list);
                changesNothing(STANDING, n, 13, list);
                changesNothing(CHOICES, n, 0, list);
                changesNothing(MIRRORED, n, 0, list);
            }
            changesNothing(COUNT, 30, 0, list);
            changesNothing(WORD, 9, MAX, list);
            changesNothing(NEXT, 9, MAX, list);
        }
        FactorFreeWords x = with(9);
        for (Method method : WITH_LENGTH) {
            long first = method.question.ask(x, 4, 9);
            due(method.name + "(4, 9) a second time", method.question.ask(x, 4, 9), first);
        }
        due("count(30) a second time", x.count(30) - x.count(30), 0);
        due("longest() a second time", x.longest() - x.longest(), 0);
    }

    private static void refusedCallsChangeNothing() {
        for (int[] list : new int[][] {{}, {9, 13, 17}, FULL}) {
            for (int number : BAD_PIECES) {
                changesNothing(FORBID, number, 0, list);
                changesNothing(PERMIT, number, 0, list);
                changesNothing(BEGINNING, 9, number, list);
                changesNothing(ENDING, 9, number, list);
                changesNothing(STANDING, 9, number, list);
            }
            for (int number : list) {
                changesNothing(FORBID, number, 0, list);
            }
            changesNothing(PERMIT, 161, 0, list);
            for (int n : BAD_LENGTHS) {
                for (Method method : WITH_LENGTH) {
                    changesNothing(method, n, 3, list);
                }
            }
            for (int n : new int[] {MIN, -1, 31, MAX}) {
                changesNothing(COUNT, n, 0, list);
            }
            for (int code : new int[] {MIN, -1, WORDS[9], MAX}) {
                changesNothing(ALLOWED, 9, code, list);
                changesNothing(RANK, 9, code, list);
                changesNothing(CHOICES, 9, code, list);
                changesNothing(COUNT_WITH, 9, code, list);
            }
        }
        for (int number = 3; number <= 161; number++) {
            if (isPiece(number)) {
                changesNothing(FORBID, number, 0, FULL);
            }
        }
    }

    private static void testsInOrder() {
        for (int n : BAD_LENGTHS) {
            for (int b : new int[] {MIN, -1, 1, WORDS[9], MAX}) {
                for (Method method : WITH_LENGTH) {
                    due(full(), method, n, b, -1);
                }
            }
        }
        for (int number : BAD_PIECES) {
            due("forbid(" + number + ") with a full list", full().forbid(number), -1);
        }
        for (int number : FULL) {
            due("forbid(" + number + "), listed, with a full list", full().forbid(number), -2);
        }
    }

    private static void countsFitIntoLong() {
        FactorFreeWords x = new FactorFreeWords();
        // 3^19 is the last power of 3 that an int holds.
        due("count(19)", x.count(19), 1162261467L);
        due("count(20)", x.count(20), 3486784401L);
        due("count(21)", x.count(21), 10460353203L);
        due("count(29)", x.count(29), 68630377364883L);
        due("count(30)", x.count(30), 205891132094649L);
        due("count(30) with two letters", with(3).count(30), 1L << 30);
    }

    // ---- Promises 1 to 4 ----

    private static void nothingForbiddenAtFirst() {
        FactorFreeWords x = new FactorFreeWords();
        due("pieces()", x.pieces(), 0);
        due("longest()", x.longest(), 9);
        for (int n = 0; n <= 9; n++) {
            due("count(" + n + ")", x.count(n), WORDS[n]);
            due("allowed(" + n + ", 0)", x.allowed(n, 0), 1);
            due("allowed of the last of " + n, x.allowed(n, WORDS[n] - 1), 1);
        }
        for (int code = 0; code < WORDS[4]; code++) {
            due("choices(4, " + code + ")", x.choices(4, code), 3);
        }
        for (int number = 3; number <= 161; number++) {
            due("permit(" + number + ")", x.permit(number), -1);
            if (isPiece(number)) {
                due("forbid(" + number + ")", new FactorFreeWords().forbid(number), 1);
            }
        }
        FactorFreeWords other = full();
        due("pieces() of an object made after another was filled", new FactorFreeWords().pieces(), 0);
        due("count(9) of it", new FactorFreeWords().count(9), WORDS[9]);
        due("pieces() of the filled one", other.pieces(), 6);
    }

    private static void forbidNoPiece() {
        for (int number : BAD_PIECES) {
            due("forbid(" + number + ")", new FactorFreeWords().forbid(number), -1);
            due("forbid(" + number + ") with five", with(3, 9, 27, 81, 161).forbid(number), -1);
        }
        for (int number : EDGE_PIECES) {
            due("forbid(" + number + ")", new FactorFreeWords().forbid(number), 1);
        }
    }

    private static void forbidListed() {
        for (int number : EDGE_PIECES) {
            FactorFreeWords x = new FactorFreeWords();
            due("forbid(" + number + ")", x.forbid(number), 1);
            due("forbid(" + number + ") again", x.forbid(number), -2);
            due("forbid(" + number + ") a third time", x.forbid(number), -2);
            x.permit(number);
            due("forbid(" + number + ") after permit", x.forbid(number), 1);
        }
        for (int number : FULL) {
            due("forbid(" + number + ") with a full list", full().forbid(number), -2);
        }
        // Not in the list, though a piece of it makes them needless, or has the same code.
        FactorFreeWords x = with(3);
        due("forbid(00) after forbid(0)", x.forbid(9), 2);
        due("forbid(000) after forbid(0)", x.forbid(27), 3);
        due("forbid(0000) after forbid(0)", x.forbid(81), 4);
    }

    private static void forbidFull() {
        for (int seventh : EDGE_PIECES) {
            FactorFreeWords x = with(10, 28, 29, 82, 83);
            due("forbid(" + seventh + ") as the sixth", x.forbid(seventh), 6);
            due("forbid(84) as the seventh", x.forbid(84), -3);
        }
        for (int seventh : EDGE_PIECES) {
            FactorFreeWords x = with(10, 28, 29, 82, 83, 84);
            due("forbid(" + seventh + ") as the seventh", x.forbid(seventh), -3);
            due("forbid(" + seventh + ") as the seventh again", x.forbid(seventh), -3);
            due("permit(28)", x.permit(28), 5);
            due("forbid(" + seventh + ") when a place is free", x.forbid(seventh), 6);
            due("forbid(28) when it is full again", x.forbid(28), -3);
        }
    }

    private static void forbidAnswersHowMany() {
        FactorFreeWords x = new FactorFreeWords();
        for (int i = 0; i < FULL.length; i++) {
            due("forbid(" + FULL[i] + ")", x.forbid(FULL[i]), i + 1);
        }
        due("permit(5)", x.permit(5), 5);
        due("permit(9)", x.permit(9), 4);
        due("forbid(9)", x.forbid(9), 5);
    }

    private static void permitNotListed() {
        for (int number : BAD_PIECES) {
            due("permit(" + number + ") of nothing", new FactorFreeWords().permit(number), -1);
            due("permit(" + number + ") of three", with(9, 13, 17).permit(number), -1);
            due("permit(" + number + ") of six", full().permit(number), -1);
        }
        for (int number : EDGE_PIECES) {
            due("permit(" + number + ") of nothing", new FactorFreeWords().permit(number), -1);
            due("permit(" + number + ") of others", with(10, 28, 29, 82, 83, 84).permit(number), -1);
            FactorFreeWords x = with(number, 10);
            due("permit(" + number + ")", x.permit(number), 1);
            due("permit(" + number + ") again", x.permit(number), -1);
        }
        FactorFreeWords x = full();
        due("forbid(10), refused", x.forbid(10), -3);
        due("permit(10) after a refused forbid", x.permit(10), -1);
        // Needless beside 0, but not in the list.
        due("permit(00) of 0", with(3).permit(9), -1);
        due("permit(0) of 00", with(9).permit(3), -1);
    }

    private static void permitAnswersHowManyAreLeft() {
        FactorFreeWords x = full();
        for (int i = 0; i < FULL.length; i++) {
            due("permit(" + FULL[i] + ")", x.permit(FULL[i]), 5 - i);
            due("pieces()", x.pieces(), 5 - i);
        }
        due("permit(5) of nothing", x.permit(5), -1);
        due("count(9) of nothing", x.count(9), WORDS[9]);
        FactorFreeWords backward = full();
        for (int i = 5; i >= 0; i--) {
            due("permit(" + FULL[i] + "), the last first", backward.permit(FULL[i]), i);
        }
        FactorFreeWords both = with(3, 9);
        due("permit(0) of 0 and 00", both.permit(3), 1);
        due("0 after it", both.allowed(1, 0), 1);
        due("00 after it", both.allowed(2, 0), 0);
    }

    private static void piecesFromNoneToSix() {
        FactorFreeWords x = new FactorFreeWords();
        due("pieces() at first", x.pieces(), 0);
        x.permit(3);
        due("pieces() after a refused permit", x.pieces(), 0);
        x.forbid(2);
        due("pieces() after a refused forbid", x.pieces(), 0);
        for (int i = 0; i < FULL.length; i++) {
            x.forbid(FULL[i]);
            due("pieces() after forbid(" + FULL[i] + ")", x.pieces(), i + 1);
            x.forbid(FULL[i]);
            due("pieces() after it was refused again", x.pieces(), i + 1);
        }
        x.forbid(10);
        due("pieces() after a seventh was refused", x.pieces(), 6);
        for (int i = 0; i < FULL.length; i++) {
            x.permit(FULL[i]);
            due("pieces() after permit(" + FULL[i] + ")", x.pieces(), 5 - i);
            x.permit(FULL[i]);
            due("pieces() after it was refused again", x.pieces(), 5 - i);
        }
    }

    // ---- What many promises say in the same words ----

    /** At the last good lengths the answer is the one given, at the bad ones -1. */
    private static void badLength(Method method, int b, long wantOf0, long wantOf9) {
        due(new FactorFreeWords(), method, 0, b, wantOf0);
        due(new FactorFreeWords(), method, 9, b, wantOf9);
        for (int n : BAD_LENGTHS) {
            due(new FactorFreeWords(), method, n, b, -1);
            due(withoutLetters(), method, n, b, -1);
            due(full(), method, n, MIN, -1);
            due(full(), method, n, MAX, -1);
        }
    }

    private static void badCode(Method method) {
        for (int n = 0; n <= 9; n++) {
            for (int code : new int[] {MIN, -WORDS[n], -1, WORDS[n], WORDS[n] + 1, 3 * WORDS[n], MAX}) {
                due(new FactorFreeWords(), method, n, code, -2);
                due(withoutLetters(), method, n, code, -2);
            }
            long first = new long[] {1, 0, 3}[method == ALLOWED ? 0 : method == RANK ? 1 : 2];
            long last = method == RANK ? WORDS[n] - 1 : first;
            due(new FactorFreeWords(), method, n, 0, first);
            due(new FactorFreeWords(), method, n, WORDS[n] - 1, last);
            // A word that is not allowed has a code all the same.
            due(n == 0 ? new FactorFreeWords() : withoutLetters(), method, n, 0, n == 0 ? first : 0);
        }
    }

    private static void badPiece(Method method) {
        for (int n = 0; n <= 9; n++) {
            for (int number : BAD_PIECES) {
                due(new FactorFreeWords(), method, n, number, -2);
                due(full(), method, n, number, -2);
            }
        }
        for (int number : EDGE_PIECES) {
            due(new FactorFreeWords(), method, lengthOfPiece(number), number, 1);
            // A listed piece is still a piece: it stands nowhere, but may be asked about.
            due(with(number), method, 9, number, 0);
        }
    }

    private static void shorterThanPiece(Method method) {
        for (int number : EDGE_PIECES) {
            int length = lengthOfPiece(number);
            for (int n = 0; n < length; n++) {
                due(new FactorFreeWords(), method, n, number, 0);
            }
            due(new FactorFreeWords(), method, length, number, 1);
        }
        // A short word's missing letters are no letters 0.
        due(new FactorFreeWords(), method, 1, piece("01"), 0);
        due(new FactorFreeWords(), method, 1, piece("0001"), 0);
        due(new FactorFreeWords(), method, 3, piece("0122"), 0);
    }

    // ---- Promises 5 to 16 ----

    private static void countBounds() {
        FactorFreeWords x = new FactorFreeWords();
        due("count(0)", x.count(0), 1);
        due("count(9)", x.count(9), WORDS[9]);
        due("count(10)", x.count(10), 59049);
        due("count(30)", x.count(30), 205891132094649L);
        FactorFreeWords none = withoutLetters();
        due("count(0) without letters", none.count(0), 1);
        due("count(1) without letters", none.count(1), 0);
        due("count(30) without letters", none.count(30), 0);
        FactorFreeWords one = with(3, 4);
        due("count(0) with one letter", one.count(0), 1);
        due("count(30) with one letter", one.count(30), 1);
    }

    private static void countBadLength() {
        for (int n : new int[] {MIN, MIN + 1, -30, -2, -1, 31, 32, 33, 64, MAX - 1, MAX}) {
            due("count(" + n + ")", new FactorFreeWords().count(n), -1);
            due("count(" + n + ") without letters", withoutLetters().count(n), -1);
            due("count(" + n + ") with a full list", full().count(n), -1);
        }
        due("count(30)", with(3, 4).count(30), 1);
        due("count(0)", with(3, 4).count(0), 1);
    }

    private static void countWithBadNumber() {
        for (int n = 0; n <= 9; n++) {
            for (int k : new int[] {MIN, MIN + 1, -9, -1, 10, 11, MAX - 1, MAX}) {
                due(new FactorFreeWords(), COUNT_WITH, n, k, -2);
                due(withoutLetters(), COUNT_WITH, n, k, -2);
            }
            due(new FactorFreeWords(), COUNT_WITH, n, 0, 1L << n);
            due(new FactorFreeWords(), COUNT_WITH, n, n, 1);
            // More letters 0 than letters: a good number, and no word.
            for (int k = n + 1; k <= 9; k++) {
                due(new FactorFreeWords(), COUNT_WITH, n, k, 0);
            }
        }
        due("countWith(9, 9) with only the letter 0", with(4, 5).countWith(9, 9), 1);
        due("countWith(9, 0) with only the letter 0", with(4, 5).countWith(9, 0), 0);
        due("countWith(9, 9) without the letter 0", with(3).countWith(9, 9), 0);
        due("countWith(9, 0) without the letter 0", with(3).countWith(9, 0), 512);
        due("countWith(0, 0) without letters", withoutLetters().countWith(0, 0), 1);
    }

    private static void rankAtTheEnds() {
        FactorFreeWords x = with(piece("00"), piece("22"));
        // Of length 2 the words 01, 02, 10, 11, 12, 20 and 21 are allowed: codes 1 to 7.
        due("rank of the first code", x.rank(2, 0), 0);
        due("rank of the first allowed word", x.rank(2, 1), 0);
        due("rank of the second allowed word", x.rank(2, 2), 1);
        due("rank of the last allowed word", x.rank(2, 7), 6);
        due("rank of the last code, not allowed", x.rank(2, 8), 7);
        due("rank of the empty word", x.rank(0, 0), 0);
        due("rank of the last word of length 9", with(3, 4).rank(9, WORDS[9] - 1), 0);
        due("rank of the last code without letters", withoutLetters().rank(9, WORDS[9] - 1), 0);
    }

    private static void wordFromNought() {
        FactorFreeWords x = with(piece("00"), piece("22"));
        due("word(2, 0)", x.word(2, 0), 1);
        due("word(2, 1)", x.word(2, 1), 2);
        due("word(2, 6)", x.word(2, 6), 7);
        due("word(0, 0)", x.word(0, 0), 0);
        due("word(0, 0) without letters", withoutLetters().word(0, 0), 0);
        due("word(9, 0) with one letter", with(3, 4).word(9, 0), WORDS[9] - 1);
        for (int n = 0; n <= 9; n++) {
            due(new FactorFreeWords(), WORD, n, 0, 0);
            due(new FactorFreeWords(), WORD, n, WORDS[n] - 1, WORDS[n] - 1);
        }
    }

    private static void wordMissing() {
        for (int n = 0; n <= 9; n++) {
            for (int i : new int[] {MIN, MIN + 1, -2, -1, WORDS[n], WORDS[n] + 1, MAX - 1, MAX}) {
                due(new FactorFreeWords(), WORD, n, i, -2);
            }
        }
        FactorFreeWords x = with(piece("00"), piece("22"));
        for (int i : new int[] {MIN, -1, 7, 8, 9, MAX}) {
            due("word(2, " + i + ") of seven words", x.word(2, i), -2);
        }
        for (int i : new int[] {MIN, -1, 0, 1, MAX}) {
            due("word(1, " + i + ") without letters", withoutLetters().word(1, i), -2);
            due("word(9, " + i + ") without letters", withoutLetters().word(9, i), -2);
        }
        due("word(0, 1) without letters", withoutLetters().word(0, 1), -2);
        due("word(9, 1) with one letter", with(3, 4).word(9, 1), -2);
    }

    private static void nextAfterAnyInt() {
        FactorFreeWords x = with(piece("00"), piece("22"));
        for (int after : new int[] {MIN, MIN + 1, -1000000, -10, -2, -1, 0}) {
            due("next(2, " + after + ")", x.next(2, after), 1);
        }
        due("next(2, 1)", x.next(2, 1), 2);
        due("next(2, 6)", x.next(2, 6), 7);
        for (int n = 0; n <= 9; n++) {
            for (int after : new int[] {MIN, MIN + 1, -WORDS[n], -1}) {
                due(new FactorFreeWords(), NEXT, n, after, 0);
            }
            if (n > 0) {
                due(new FactorFreeWords(), NEXT, n, 0, 1);
                due(new FactorFreeWords(), NEXT, n, WORDS[n] - 2, WORDS[n] - 1);
                due(with(3, 4), NEXT, n, MIN, WORDS[n] - 1);
                due(with(3, 4), NEXT, n, WORDS[n] - 2, WORDS[n] - 1);
            }
        }
        due("next(0, MIN) without letters", withoutLetters().next(0, MIN), 0);
    }

    private static void nextMissing() {
        for (int n = 0; n <= 9; n++) {
            for (int after : new int[] {WORDS[n] - 1, WORDS[n], WORDS[n] + 1, MAX - 1, MAX}) {
                due(new FactorFreeWords(), NEXT, n, after, -2);
            }
        }
        FactorFreeWords x = with(piece("00"), piece("22"));
        for (int after : new int[] {7, 8, 9, MAX - 1, MAX}) {
            due("next(2, " + after + ") when 21 is the last", x.next(2, after), -2);
        }
        for (int after : new int[] {MIN, -1, 0, WORDS[9] - 1, MAX}) {
            due("next(1, " + after + ") without letters", withoutLetters().next(1, after), -2);
            due("next(9, " + after + ") without letters", withoutLetters().next(9, after), -2);
        }
    }

    private static void standingPlaces() {
        // The first place and the last one count, and so do places that share letters.
        due("01 in the words of length 3", new FactorFreeWords().standing(3, piece("01")), 6);
        due("2 in 222222222", with(3, 4).standing(9, 5), 9);
        due("22 in 222222222", with(3, 4).standing(9, piece("22")), 8);
        due("222 in 222222222", with(3, 4).standing(9, piece("222")), 7);
        due("2222 in 222222222", with(3, 4).standing(9, piece("2222")), 6);
        due("1 in 222222222", with(3, 4).standing(9, 4), 0);
        due("0 in all words of length 9", new FactorFreeWords().standing(9, 3), 9 * 6561);
        due("0 without letters", withoutLetters().standing(9, 3), 0);
    }

    private static void longestOfNoughtToNine() {
        due("nothing forbidden", new FactorFreeWords().longest(), 9);
        due("a full list", full().longest(), 9);
        due("one letter", with(3, 4).longest(), 9);
        due("one letter, no 22", with(3, 4, piece("22")).longest(), 1);
        due("one letter, no 222", with(3, 4, piece("222")).longest(), 2);
        due("one letter, no 2222", with(3, 4, piece("2222")).longest(), 3);
        // A row of 0, then a row of 1, then a row of 2, of so many letters at most.
        int[] rows = {piece("10"), piece("20"), piece("21")};
        due("rows of 3, 3 and 1", with(rows[0], rows[1], rows[2],
                piece("0000"), piece("1111"), piece("22")).longest(), 7);
        due("rows of 3, 3 and 2", with(rows[0], rows[1], rows[2],
                piece("0000"), piece("1111"), piece("222")).longest(), 8);
        FactorFreeWords nine = with(rows[0], rows[1], rows[2], piece("0000"), piece("1111"), piece("2222"));
        due("rows of 3, 3 and 3", nine.longest(), 9);
        due("count(9) of them", nine.count(9), 1);
        due("count(10) of them", nine.count(10), 0);
        due("any row of 2", with(rows[0], rows[1], rows[2], piece("0000"), piece("1111")).longest(), 9);
    }

    private static void emptyWordAlwaysAllowed() {
        FactorFreeWords x = withoutLetters();
        due("longest() without letters", x.longest(), 0);
        due("allowed(0, 0) without letters", x.allowed(0, 0), 1);
        due("count(0) without letters", x.count(0), 1);
        due("mirrored(0) without letters", x.mirrored(0), 1);
        due("allowed(0, 0) of a full list", full().allowed(0, 0), 1);
        due("allowed(0, 0) of nothing", new FactorFreeWords().allowed(0, 0), 1);
        x.forbid(9);
        x.forbid(27);
        x.forbid(81);
        due("longest() without letters, a full list", x.longest(), 0);
        due("allowed(0, 0) without letters, a full list", x.allowed(0, 0), 1);
        x.permit(5);
        due("longest() when a letter is back", x.longest(), 9);
        due("longest() with only the letters 0 and 1 forbidden, and 22", with(3, 4, 17).longest(), 1);
    }

    private static void choicesOfWordNotAllowed() {
        FactorFreeWords x = with(piece("01"));
        due("1", x.choices(1, 1), 3);
        due("01", x.choices(2, code("01")), 0);
        due("012222222, at the beginning", x.choices(9, code("012222222")), 0);
        due("222201222, in the middle", x.choices(9, code("222201222")), 0);
        due("222222201, at the end", x.choices(9, code("222222201")), 0);
        due("222222210", x.choices(9, code("222222210")), 2);
        due("222222222", x.choices(9, code("222222222")), 3);
        due("0 without letters", withoutLetters().choices(1, 0), 0);
        due("222222220, where 01 would come to stand", x.choices(9, code("222222220")), 2);
        due("222222221", x.choices(9, code("222222221")), 3);
        // A tenth letter ends a piece of four that begins inside the nine.
        FactorFreeWords four = with(piece("1201"), piece("1202"));
        due("222222120", four.choices(9, code("222222120")), 1);
        due("222221202, not allowed", four.choices(9, code("222221202")), 0);
        due("222222121", four.choices(9, code("222222121")), 3);
        // Allowed, and yet no letter may follow.
        FactorFreeWords end = with(piece("00"), piece("01"), piece("02"));
        due("0 with no letter to follow", end.choices(1, 0), 0);
        due("1 with all letters to follow", end.choices(1, 1), 3);
        due("the empty word without letters", withoutLetters().choices(0, 0), 0);
        due("the empty word with one letter", with(3, 4).choices(0, 0), 1);
    }

    private static void mirroredAtTheEnds() {
        due("the empty word", new FactorFreeWords().mirrored(0), 1);
        due("one letter", new FactorFreeWords().mirrored(1), 3);
        due("two letters", new FactorFreeWords().mirrored(2), 3);
        due("eight letters", new FactorFreeWords().mirrored(8), 81);
        due("nine letters", new FactorFreeWords().mirrored(9), 243);
        due("nine letters without letters", withoutLetters().mirrored(9), 0);
        due("222222222", with(3, 4).mirrored(9), 1);
        // The letters in the middle of an even length are the same.
        due("even, without 00, 11 and 22", with(9, 13, 17).mirrored(8), 0);
        due("odd, without 00, 11 and 22", with(9, 13, 17).mirrored(9), 3 * 16);
    }

    // ---- The object's use ----

    private static void usedFor512Calls() {
        Method[] all = {
            PIECES, ALLOWED, COUNT, COUNT_WITH, RANK, WORD, NEXT, BEGINNING, ENDING, STANDING,
            LONGEST, CHOICES, MIRRORED,
        };
        for (Method method : all) {
            FactorFreeWords x = new FactorFreeWords();
            long first = method.question.ask(x, 4, 9);
            for (int call = 2; call <= 512; call++) {
                due("call " + call + ", " + method.name + "(4, 9)", method.question.ask(x, 4, 9), first);
            }
        }
        FactorFreeWords changing = new FactorFreeWords();
        for (int call = 1; call <= 512; call += 2) {
            due("call " + call + ", forbid(161)", changing.forbid(161), 1);
            due("call " + (call + 1) + ", permit(161)", changing.permit(161), 0);
        }
        FactorFreeWords empty = new FactorFreeWords();
        for (int call = 1; call <= 512; call++) {
            due("call " + call + ", permit(161)", empty.permit(161), -1);
        }
        FactorFreeWords refusing = full();
        for (int call = 7; call <= 511; call++) {
            due("call " + call + ", forbid(10)", refusing.forbid(10), -3);
        }
        due("call 512, count(9)", refusing.count(9), full().count(9));
        // Each piece goes in and out once; refused calls then use up what is left.
        FactorFreeWords each = new FactorFreeWords();
        int calls = 0;
        for (int number = 3; number <= 161; number++) {
            if (isPiece(number)) {
                due("forbid(" + number + ")", each.forbid(number), 1);
                due("choices(3, 0) without " + number, each.choices(3, 0), choicesAfterZeros(number));
                due("permit(" + number + ")", each.permit(number), 0);
                calls += 3;
            }
        }
        for (; calls < 511; calls++) {
            each.forbid(2);
        }
        due("call 512, count(30)", each.count(30), 205891132094649L);
    }

    /** How many letters may follow 000 when one piece is forbidden. */
    private static int choicesAfterZeros(int number) {
        String letters = Integer.toString(number, 3).substring(1);
        if ("000".startsWith(letters)) {
            return 0;
        }
        return "000".startsWith(letters.substring(0, letters.length() - 1)) ? 2 : 3;
    }

    private static void terms() {
        test("Terms: LENGTHS are 0 .. 9", BoundaryTest::lengths);
        test("Terms: The CODE of a word of length n is the number 0 .. 3^n - 1", BoundaryTest::codes);
        test("Terms: the numbers of pieces are 3 .. 5, 9 .. 17, 27 .. 53 and 81 .. 161",
                BoundaryTest::numbersOfPieces);
        test("Terms: No question changes anything", BoundaryTest::questionsChangeNothing);
        test("Terms: A refused call changes nothing", BoundaryTest::refusedCallsChangeNothing);
        test("Terms: In every method the tests are made in the order named; a length is good if it is 0 .. 9",
                BoundaryTest::testsInOrder);
        test("Terms: Numbers of words up to length 30 fit into a long", BoundaryTest::countsFitIntoLong);
    }

    private static void theList() {
        test("Promise 1: Nothing is forbidden at first", BoundaryTest::nothingForbiddenAtFirst);
        test("Promise 2: -1 if piece is not the number of a piece", BoundaryTest::forbidNoPiece);
        test("Promise 2: -2 if it is in the list", BoundaryTest::forbidListed);
        test("Promise 2: -3 if the list has 6", BoundaryTest::forbidFull);
        test("Promise 2: otherwise answers how many there are now", BoundaryTest::forbidAnswersHowMany);
        test("Promise 3: -1 if it is not in it", BoundaryTest::permitNotListed);
        test("Promise 3: otherwise answers how many are left", BoundaryTest::permitAnswersHowManyAreLeft);
        test("Promise 4: How many forbidden pieces there are", BoundaryTest::piecesFromNoneToSix);
    }

    private static void wordsByCode() {
        test("Promise 5: -1 if n is not good", () -> badLength(ALLOWED, 0, 1, 1));
        test("Promise 5: -2 if code is not that of a word of length n", () -> badCode(ALLOWED));
        test("Promise 6: n may be 0 .. 30", BoundaryTest::countBounds);
        test("Promise 6: -1 if it is not", BoundaryTest::countBadLength);
        test("Promise 7: -1 if n is not good", () -> badLength(COUNT_WITH, 0, 1, 512));
        test("Promise 7: -2 if k is not in 0 .. 9", BoundaryTest::countWithBadNumber);
        test("Promise 8: How many have a code less than that one", BoundaryTest::rankAtTheEnds);
        test("Promise 8: -1 if n is not good", () -> badLength(RANK, 0, 0, 0));
        test("Promise 8: -2 if code is not that of a word of length n", () -> badCode(RANK));
        test("Promise 9: 0 for the first", BoundaryTest::wordFromNought);
        test("Promise 9: -1 if n is not good", () -> badLength(WORD, 0, 0, 0));
        test("Promise 9: -2 if there is no such word", BoundaryTest::wordMissing);
        test("Promise 10: greater than after (any int)", BoundaryTest::nextAfterAnyInt);
        test("Promise 10: -1 if n is not good", () -> badLength(NEXT, -1, 0, 0));
        test("Promise 10: -2 if there is none", BoundaryTest::nextMissing);
    }

    private static void piecesInWords() {
        test("Promise 11: -1 if n is not good", () -> badLength(BEGINNING, 3, 0, 6561));
        test("Promise 11: -2 if piece is not the number of a piece", () -> badPiece(BEGINNING));
        test("Promise 11: 0 if n is less than its length", () -> shorterThanPiece(BEGINNING));
        test("Promise 12: -1 if n is not good", () -> badLength(ENDING, 3, 0, 6561));
        test("Promise 12: -2 if piece is not the number of a piece", () -> badPiece(ENDING));
        test("Promise 12: no word ends with more letters than it has", () -> shorterThanPiece(ENDING));
        test("Promise 13: In how many places the piece stands", BoundaryTest::standingPlaces);
        test("Promise 13: -1 if n is not good", () -> badLength(STANDING, 3, 0, 9 * 6561));
        test("Promise 13: -2 if piece is not the number of a piece", () -> badPiece(STANDING));
        test("Promise 13: in no word stand more letters than it has", () -> shorterThanPiece(STANDING));
    }

    private static void lastPromises() {
        test("Promise 14: The greatest length 0 .. 9", BoundaryTest::longestOfNoughtToNine);
        test("Promise 14: The empty word is always allowed", BoundaryTest::emptyWordAlwaysAllowed);
        test("Promise 15: 0 if the word itself is not", BoundaryTest::choicesOfWordNotAllowed);
        test("Promise 15: -1 if n is not good", () -> badLength(CHOICES, 0, 3, 3));
        test("Promise 15: -2 if code is not that of a word of length n", () -> badCode(CHOICES));
        test("Promise 16: the same read backward", BoundaryTest::mirroredAtTheEnds);
        test("Promise 16: -1 if n is not good", () -> badLength(MIRRORED, 0, 1, 243));
        test("Use: at most 512 calls after it has been made", BoundaryTest::usedFor512Calls);
    }

    public static void main(String[] args) {
        terms();
        theList();
        wordsByCode();
        piecesInWords();
        lastPromises();
        System.out.println(sentences + " sentences, " + checks + " answers, " + wrong + " not as due");
        if (wrong != 0) {
            System.exit(1);
        }
    }
}
