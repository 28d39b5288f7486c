/** For each promise of the document: ordinary inputs, the edges it names, and wrong inputs. */
public final class PromisesTest {
    private static int wrong = 0;

    private static void due(int promise, String call, long got, long want) {
        if (got != want) {
            wrong++;
            System.out.println("promise " + promise + ": " + call + " answered " + got + ", due is " + want);
        }
    }

    private static FactorFreeWords with(int... pieces) {
        FactorFreeWords x = new FactorFreeWords();
        for (int piece : pieces) {
            x.forbid(piece);
        }
        return x;
    }

    /** The number of the piece with these letters. */
    private static int piece(String letters) {
        return Integer.parseInt("1" + letters, 3);
    }

    private static int code(String letters) {
        return letters.isEmpty() ? 0 : Integer.parseInt(letters, 3);
    }

    private static void newObject() {
        FactorFreeWords x = new FactorFreeWords();
        due(1, "pieces()", x.pieces(), 0);
        long words = 1;
        for (int n = 0; n <= 30; n++) {
            due(1, "count(" + n + ")", x.count(n), words);
            words *= 3;
        }
        for (int piece = 0; piece <= 170; piece++) {
            due(1, "permit(" + piece + ")", x.permit(piece), -1);
        }
        x.forbid(3);
        due(1, "pieces() of a second object", new FactorFreeWords().pieces(), 0);
        due(1, "count(1) of a second object", new FactorFreeWords().count(1), 3);
    }

    private static void forbid() {
        for (int piece = -200; piece <= 600; piece++) {
            boolean good = piece >= 3 && piece <= 5 || piece >= 9 && piece <= 17
                    || piece >= 27 && piece <= 53 || piece >= 81 && piece <= 161;
            FactorFreeWords x = new FactorFreeWords();
            due(2, "forbid(" + piece + ")", x.forbid(piece), good ? 1 : -1);
            due(2, "pieces() after forbid(" + piece + ")", x.pieces(), good ? 1 : 0);
        }
        FactorFreeWords x = new FactorFreeWords();
        due(2, "forbid(MIN)", x.forbid(Integer.MIN_VALUE), -1);
        due(2, "forbid(MAX)", x.forbid(Integer.MAX_VALUE), -1);
        int[] six = {3, 17, 27, 53, 81, 161};
        for (int i = 0; i < six.length; i++) {
            due(2, "forbid(" + six[i] + ")", x.forbid(six[i]), i + 1);
            due(2, "forbid(" + six[i] + ") again", x.forbid(six[i]), -2);
        }
        due(2, "forbid(4), a seventh", x.forbid(4), -3);
        due(2, "forbid(6), not a piece, list full", x.forbid(6), -1);
        due(2, "forbid(17), listed, list full", x.forbid(17), -2);
        due(2, "pieces() after refusals", x.pieces(), 6);
        due(2, "allowed(1, 1) after a refused forbid(4)", x.allowed(1, 1), 1);
        due(2, "permit(17)", x.permit(17), 5);
        due(2, "forbid(4) after a place came free", x.forbid(4), 6);
        due(2, "allowed(1, 1) after forbid(4)", x.allowed(1, 1), 0);
        // A piece that a shorter forbidden one makes needless is listed all the same.
        due(2, "forbid(00) after forbid(0)", with(3).forbid(9), 2);
    }

    private static void permit() {
        FactorFreeWords x = with(9, 13, 17);
        due(3, "permit(10)", x.permit(10), -1);
        for (int piece : new int[] {Integer.MIN_VALUE, -1, 0, 1, 2, 6, 8, 18, 26, 54, 80, 162, Integer.MAX_VALUE}) {
            due(3, "permit(" + piece + ")", x.permit(piece), -1);
        }
        due(3, "pieces() after refusals", x.pieces(), 3);
        due(3, "permit(13)", x.permit(13), 2);
        due(3, "permit(13) again", x.permit(13), -1);
        due(3, "allowed 11", x.allowed(2, 4), 1);
        due(3, "allowed 00", x.allowed(2, 0), 0);
        due(3, "allowed 22", x.allowed(2, 8), 0);
        due(3, "permit(17)", x.permit(17), 1);
        due(3, "permit(9)", x.permit(9), 0);
        due(3, "count(9) when all are out", x.count(9), 19683);
        due(3, "forbid(13) after permit", x.forbid(13), 1);
        FactorFreeWords longAndShort = with(3, 9);
        due(3, "permit(3)", longAndShort.permit(3), 1);
        due(3, "allowed 0", longAndShort.allowed(1, 0), 1);
        due(3, "allowed 00", longAndShort.allowed(2, 0), 0);
    }

    private static void pieces() {
        FactorFreeWords x = new FactorFreeWords();
        for (int i = 0; i < 6; i++) {
            due(4, "pieces()", x.pieces(), i);
            x.forbid(81 + i);
        }
        due(4, "pieces()", x.pieces(), 6);
        x.forbid(100);
        due(4, "pieces() after a seventh", x.pieces(), 6);
        x.permit(81);
        x.permit(81);
        due(4, "pieces() after permit twice", x.pieces(), 5);
    }

    private static void allowed() {
        FactorFreeWords x = with(piece("012"), piece("1201"), piece("22"));
        due(5, "the empty word", x.allowed(0, 0), 1);
        due(5, "012", x.allowed(3, code("012")), 0);
        due(5, "at the beginning", x.allowed(9, code("012000000")), 0);
        due(5, "at the end", x.allowed(9, code("000000012")), 0);
        due(5, "in the middle", x.allowed(9, code("111012111")), 0);
        due(5, "1201 at the beginning", x.allowed(9, code("120100000")), 0);
        due(5, "1201 at the end", x.allowed(9, code("000001201")), 0);
        due(5, "letters not one after the other", x.allowed(9, code("001010102")), 1);
        due(5, "22 at the end", x.allowed(2, code("22")), 0);
        due(5, "2 alone", x.allowed(1, 2), 1);
        // The letters that are missing before a short word are not letters 0.
        FactorFreeWords zeros = with(piece("00"), piece("0001"));
        due(5, "0", zeros.allowed(1, 0), 1);
        due(5, "01", zeros.allowed(2, 1), 1);
        due(5, "00", zeros.allowed(2, 0), 0);
        due(5, "001 when 0001 is forbidden", with(piece("0001")).allowed(3, 1), 1);
        due(5, "0001 when 0001 is forbidden", with(piece("0001")).allowed(4, 1), 0);
        int words = 1;
        for (int n = 0; n <= 9; n++) {
            due(5, "last code of " + n, new FactorFreeWords().allowed(n, words - 1), 1);
            due(5, "code too great for " + n, x.allowed(n, words), -2);
            due(5, "code -1 for " + n, x.allowed(n, -1), -2);
            words *= 3;
        }
        due(5, "allowed(-1, 0)", x.allowed(-1, 0), -1);
        due(5, "allowed(10, 0)", x.allowed(10, 0), -1);
        due(5, "allowed(10, -1)", x.allowed(10, -1), -1);
        due(5, "allowed(MIN, MIN)", x.allowed(Integer.MIN_VALUE, Integer.MIN_VALUE), -1);
        due(5, "allowed(MAX, MAX)", x.allowed(Integer.MAX_VALUE, Integer.MAX_VALUE), -1);
        due(5, "allowed(9, MAX)", x.allowed(9, Integer.MAX_VALUE), -2);
        due(5, "allowed(9, MIN)", x.allowed(9, Integer.MIN_VALUE), -2);
    }

    private static void count() {
        FactorFreeWords noTwoZeros = with(piece("00"));
        long before = 1;
        long now = 3;
        due(6, "count(0) without 00", noTwoZeros.count(0), 1);
        for (int n = 1; n <= 30; n++) {
            due(6, "count(" + n + ") without 00", noTwoZeros.count(n), now);
            long after = 2 * (now + before);
            before = now;
            now = after;
        }
        FactorFreeWords noFourZeros = with(piece("0000"));
        long[] words = new long[31];
        for (int n = 0; n <= 30; n++) {
            // By the number of letters 0 at the end: cut at the last letter that is not 0.
            words[n] = n < 4 ? 1 : 0;
            for (int zeros = 0; zeros < 4 && zeros < n; zeros++) {
                words[n] += 2 * words[n - 1 - zeros];
            }
            due(6, "count(" + n + ") without 0000", noFourZeros.count(n), words[n]);
        }
        FactorFreeWords nothing = with(3, 4, 5);
        due(6, "count(0) without letters", nothing.count(0), 1);
        due(6, "count(1) without letters", nothing.count(1), 0);
        due(6, "count(30) without letters", nothing.count(30), 0);
        due(6, "count(30) with one letter", with(3, 5).count(30), 1);
        due(6, "count(30) with two letters", with(4).count(30), 1L << 30);
        for (int n : new int[] {-1, 31, Integer.MIN_VALUE, Integer.MAX_VALUE}) {
            due(6, "count(" + n + ")", nothing.count(n), -1);
        }
    }

    private static void countWith() {
        FactorFreeWords free = new FactorFreeWords();
        // 9 over k, times 2^(9 - k).
        int[] due = {512, 2304, 4608, 5376, 4032, 2016, 672, 144, 18, 1};
        for (int k = 0; k <= 9; k++) {
            due(7, "countWith(9, " + k + ")", free.countWith(9, k), due[k]);
            due(7, "countWith(0, " + k + ")", free.countWith(0, k), k == 0 ? 1 : 0);
        }
        due(7, "countWith(3, 4), more than letters", free.countWith(3, 4), 0);
        FactorFreeWords x = with(piece("00"));
        due(7, "countWith(3, 2) without 00", x.countWith(3, 2), 2);
        due(7, "countWith(9, 5) without 00", x.countWith(9, 5), 16);
        due(7, "countWith(9, 6) without 00", x.countWith(9, 6), 0);
        due(7, "countWith(-1, 0)", x.countWith(-1, 0), -1);
        due(7, "countWith(10, 0)", x.countWith(10, 0), -1);
        due(7, "countWith(10, 10)", x.countWith(10, 10), -1);
        due(7, "countWith(9, 10)", x.countWith(9, 10), -2);
        due(7, "countWith(0, -1)", x.countWith(0, -1), -2);
        due(7, "countWith(0, MAX)", x.countWith(0, Integer.MAX_VALUE), -2);
        due(7, "countWith(0, MIN)", x.countWith(0, Integer.MIN_VALUE), -2);
    }

    private static void rank() {
        FactorFreeWords x = with(piece("00"), piece("11"), piece("22"));
        // The allowed words of length 2 have the codes 1, 2, 3, 5, 6 and 7.
        int[] due = {0, 0, 1, 2, 3, 3, 4, 5, 6};
        for (int code = 0; code < 9; code++) {
            due(8, "rank(2, " + code + ")", x.rank(2, code), due[code]);
        }
        due(8, "rank(0, 0)", x.rank(0, 0), 0);
        due(8, "rank(9, 19682)", x.rank(9, 19682), 3 * 256);
        due(8, "rank(9, 19682) of all", new FactorFreeWords().rank(9, 19682), 19682);
        due(8, "rank(2, 9)", x.rank(2, 9), -2);
        due(8, "rank(2, -1)", x.rank(2, -1), -2);
        due(8, "rank(0, 1)", x.rank(0, 1), -2);
        due(8, "rank(9, 19683)", x.rank(9, 19683), -2);
        due(8, "rank(9, MAX)", x.rank(9, Integer.MAX_VALUE), -2);
        due(8, "rank(-1, 0)", x.rank(-1, 0), -1);
        due(8, "rank(10, -1)", x.rank(10, -1), -1);
    }

    private static void word() {
        FactorFreeWords x = with(piece("00"), piece("11"), piece("22"));
        int[] due = {1, 2, 3, 5, 6, 7, -2, -2};
        for (int i = 0; i < due.length; i++) {
            due(9, "word(2, " + i + ")", x.word(2, i), due[i]);
        }
        due(9, "word(0, 0)", x.word(0, 0), 0);
        due(9, "word(0, 1)", x.word(0, 1), -2);
        due(9, "word(9, 0)", x.word(9, 0), code("010101010"));
        due(9, "word(9, 767)", x.word(9, 767), code("212121212"));
        due(9, "word(9, 768)", x.word(9, 768), -2);
        due(9, "word(2, -1)", x.word(2, -1), -2);
        due(9, "word(2, MIN)", x.word(2, Integer.MIN_VALUE), -2);
        due(9, "word(2, MAX)", x.word(2, Integer.MAX_VALUE), -2);
        due(9, "word(-1, 0)", x.word(-1, 0), -1);
        due(9, "word(10, -1)", x.word(10, -1), -1);
    }

    private static void next() {
        FactorFreeWords x = with(piece("00"), piece("11"), piece("22"));
        int[] due = {1, 1, 2, 3, 5, 5, 6, 7, -2, -2, -2};
        for (int after = -1; after < 10; after++) {
            due(10, "next(2, " + after + ")", x.next(2, after), due[after + 1]);
        }
        due(10, "next(2, MIN)", x.next(2, Integer.MIN_VALUE), 1);
        due(10, "next(2, MAX)", x.next(2, Integer.MAX_VALUE), -2);
        due(10, "next(0, MIN)", x.next(0, Integer.MIN_VALUE), 0);
        due(10, "next(0, -1)", x.next(0, -1), 0);
        due(10, "next(0, 0)", x.next(0, 0), -2);
        due(10, "next(9, 19681) of all", new FactorFreeWords().next(9, 19681), 19682);
        due(10, "next(9, 19682) of all", new FactorFreeWords().next(9, 19682), -2);
        due(10, "next(1, -1) without letters", with(3, 4, 5).next(1, -1), -2);
        due(10, "next(-1, 0)", x.next(-1, 0), -1);
        due(10, "next(10, MAX)", x.next(10, Integer.MAX_VALUE), -1);
    }

    private static void beginning() {
        FactorFreeWords x = with(piece("00"));
        due(11, "0 at length 0", x.beginning(0, piece("0")), 0);
        due(11, "0 at length 1", x.beginning(1, piece("0")), 1);
        due(11, "0 at length 3", x.beginning(3, piece("0")), 6);
        due(11, "01 at length 3", x.beginning(3, piece("01")), 3);
        due(11, "10 at length 3", x.beginning(3, piece("10")), 2);
        due(11, "00 at length 3", x.beginning(3, piece("00")), 0);
        due(11, "1001 at length 9", x.beginning(9, piece("1001")), 0);
        due(11, "1222 at length 3", x.beginning(3, piece("1222")), 0);
        due(11, "1222 at length 4", x.beginning(4, piece("1222")), 1);
        due(11, "1222 at length 9", x.beginning(9, piece("1222")), x.count(5));
        due(11, "01 without 12", with(piece("12")).beginning(3, piece("01")), 2);
        wrongPieces(11);
    }

    private static void ending() {
        FactorFreeWords x = with(piece("00"));
        due(12, "0 at length 0", x.ending(0, piece("0")), 0);
        due(12, "0 at length 1", x.ending(1, piece("0")), 1);
        due(12, "0 at length 3", x.ending(3, piece("0")), 6);
        due(12, "01 at length 3", x.ending(3, piece("01")), 2);
        due(12, "10 at length 3", x.ending(3, piece("10")), 3);
        due(12, "00 at length 3", x.ending(3, piece("00")), 0);
        due(12, "1001 at length 9", x.ending(9, piece("1001")), 0);
        due(12, "0001 at length 1", new FactorFreeWords().ending(1, piece("0001")), 0);
        due(12, "0001 at length 3", new FactorFreeWords().ending(3, piece("0001")), 0);
        due(12, "1222 at length 4", x.ending(4, piece("1222")), 1);
        due(12, "1222 at length 9", x.ending(9, piece("1222")), x.count(5));
        due(12, "21 without 12", with(piece("12")).ending(3, piece("21")), 2);
        wrongPieces(12);
    }

    private static void standing() {
        FactorFreeWords free = new FactorFreeWords();
        due(13, "0 at length 0", free.standing(0, piece("0")), 0);
        due(13, "0 at length 1", free.standing(1, piece("0")), 1);
        due(13, "0 at length 9", free.standing(9, piece("0")), 9 * 6561);
        due(13, "00 at length 3, places overlap", free.standing(3, piece("00")), 6);
        due(13, "0000 at length 9", free.standing(9, piece("0000")), 6 * 243);
        due(13, "0001 at length 3", free.standing(3, piece("0001")), 0);
        due(13, "2222 at length 4", free.standing(4, piece("2222")), 1);
        FactorFreeWords onlyTwo = with(3, 4);
        due(13, "22 at length 9 in the only word", onlyTwo.standing(9, piece("22")), 8);
        due(13, "0 in the only word", onlyTwo.standing(9, piece("0")), 0);
        due(13, "1 at length 2 without 11", with(piece("11")).standing(2, piece("1")), 4);
        wrongPieces(13);
    }

    private static long askOfPiece(int promise, FactorFreeWords x, int n, int piece) {
        return promise == 11 ? x.beginning(n, piece) : promise == 12 ? x.ending(n, piece) : x.standing(n, piece);
    }

    private static void wrongPieces(int promise) {
        FactorFreeWords x = with(piece("00"));
        int[] bad = {Integer.MIN_VALUE, -3, 0, 1, 2, 6, 8, 18, 26, 54, 80, 162, 243, Integer.MAX_VALUE};
        for (int piece : bad) {
            due(promise, "piece " + piece + " at length 0", askOfPiece(promise, x, 0, piece), -2);
            due(promise, "piece " + piece + " at length 9", askOfPiece(promise, x, 9, piece), -2);
            due(promise, "piece " + piece + " at length 10", askOfPiece(promise, x, 10, piece), -1);
        }
        for (int n : new int[] {Integer.MIN_VALUE, -1, 10, Integer.MAX_VALUE}) {
            due(promise, "length " + n, askOfPiece(promise, x, n, 3), -1);
        }
    }

    private static void longest() {
        due(14, "nothing forbidden", new FactorFreeWords().longest(), 9);
        due(14, "no letter left", with(3, 4, 5).longest(), 0);
        due(14, "one letter left", with(3, 4).longest(), 9);
        due(14, "no 22", with(3, 4, piece("22")).longest(), 1);
        due(14, "no 222", with(3, 4, piece("222")).longest(), 2);
        due(14, "no 2222", with(3, 4, piece("2222")).longest(), 3);
        // Only letters 0 and 1, and no 10: a row of 0 and then a row of 1.
        due(14, "rows of 3 and 3", with(5, piece("10"), piece("0000"), piece("1111")).longest(), 6);
        due(14, "rows of 2 and 3", with(5, piece("10"), piece("000"), piece("1111")).longest(), 5);
        // Three rows with up to 3, 3 and 1 letters.
        FactorFreeWords x = with(piece("10"), piece("20"), piece("21"), piece("0000"), piece("1111"), piece("22"));
        due(14, "rows of 3, 3 and 1", x.longest(), 7);
        x.permit(piece("22"));
        x.forbid(piece("222"));
        due(14, "rows of 3, 3 and 2", x.longest(), 8);
        x.permit(piece("222"));
        x.forbid(piece("2222"));
        due(14, "rows of 3, 3 and 3", x.longest(), 9);
    }

    private static void choices() {
        FactorFreeWords x = with(piece("00"), piece("012"), piece("1201"));
        due(15, "the empty word", x.choices(0, 0), 3);
        due(15, "0", x.choices(1, 0), 2);
        due(15, "1", x.choices(1, 1), 3);
        due(15, "01", x.choices(2, code("01")), 2);
        due(15, "00, not allowed", x.choices(2, 0), 0);
        due(15, "001, not allowed, at the beginning", x.choices(3, code("001")), 0);
        due(15, "120", x.choices(3, code("120")), 1);
        due(15, "nine letters", x.choices(9, code("222222120")), 1);
        due(15, "nine letters, free end", x.choices(9, code("222222222")), 3);
        due(15, "nine letters, not allowed", x.choices(9, code("002222222")), 0);
        due(15, "the empty word, no letter left", with(3, 4, 5).choices(0, 0), 0);
        due(15, "the empty word, one letter left", with(3, 4).choices(0, 0), 1);
        due(15, "00 when 0000 is forbidden", with(piece("0000")).choices(2, 0), 3);
        due(15, "000 when 0000 is forbidden", with(piece("0000")).choices(3, 0), 2);
        due(15, "choices(-1, 0)", x.choices(-1, 0), -1);
        due(15, "choices(10, -1)", x.choices(10, -1), -1);
        due(15, "choices(0, 1)", x.choices(0, 1), -2);
        due(15, "choices(9, 19683)", x.choices(9, 19683), -2);
        due(15, "choices(9, -1)", x.choices(9, -1), -2);
        due(15, "choices(9, MAX)", x.choices(9, Integer.MAX_VALUE), -2);
    }

    private static void mirrored() {
        FactorFreeWords free = new FactorFreeWords();
        int[] due = {1, 3, 3, 9, 9, 27, 27, 81, 81, 243};
        for (int n = 0; n <= 9; n++) {
            due(16, "mirrored(" + n + ")", free.mirrored(n), due[n]);
        }
        FactorFreeWords x = with(piece("00"));
        due(16, "mirrored(2) without 00", x.mirrored(2), 2);
        due(16, "mirrored(3) without 00", x.mirrored(3), 8);
        // Letters 01 stand in every mirrored word in which 10 stands.
        FactorFreeWords y = with(piece("01"));
        due(16, "mirrored(2) without 01", y.mirrored(2), 3);
        due(16, "mirrored(3) without 01", y.mirrored(3), 7);
        due(16, "mirrored(0) without letters", with(3, 4, 5).mirrored(0), 1);
        due(16, "mirrored(1) without letters", with(3, 4, 5).mirrored(1), 0);
        for (int n : new int[] {Integer.MIN_VALUE, -1, 10, Integer.MAX_VALUE}) {
            due(16, "mirrored(" + n + ")", x.mirrored(n), -1);
        }
    }

    public static void main(String[] args) {
        newObject();
        forbid();
        permit();
        pieces();
        allowed();
        count();
        countWith();
        rank();
        word();
        next();
        beginning();
        ending();
        standing();
        longest();
        choices();
        mirrored();
        System.out.println(wrong == 0 ? "all answers are as due" : wrong + " answers are not as due");
        if (wrong != 0) {
            System.exit(1);
        }
    }
}
