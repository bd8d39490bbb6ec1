import java.math.BigInteger;
import java.util.ArrayList;
import java.util.List;

/** The document's Terms I to V: each sentence that names an edge, with a test of its own. */
public final class TermsEdgeTest {
    private static final String HEAD = "table rows 2 columns 2;";
    private static final Sentences DOC = new Sentences();

    public static void main(String[] args) {
        lines();
        tableIsFirst();
        rowsFromTwoToFour();
        columnsFromTwoToFour();
        justSoManyRows();
        justSoManyNumbers();
        numbersFromNoughtToNine();
        anyNumberOfHoles();
        holesWithinTheTable();
        holesOfNoughtAlone();
        totalOfTwentyAtMost();
        blanks();
        longestTokens();
        signsBesideTokens();
        firstFault();
        leastFaultOfOnePlace();
        placeOfTheEnd();
        misplacedTokens();
        wordsOffByALetter();
        numbersThatWouldWrap();
        holeToldAlready();
        ranksFromNought();
        orderOfCells();
        holesStayNought();
        weightOfNought();
        sumsThatAreNought();
        mostThatAnyCellIs();
        farOutOrFarther();
        bySumsOfNought();
        chiAboveNoughtAlone();
        holesCountInChi();
        noCellBelowNought();
        noneOfTheFourIsAHole();
        choicesThatStay();
        turnsOfThree();
        turnsUnderLikeTerms();
        listedToAThousand();
        evenlyIsCut();
        wordsBelowEvenly();
        drawsWrapRound();
        othersThanTheFirst();
        DOC.finish(41);
    }

    private static String head(int rows, int columns) {
        return "table rows " + rows + " columns " + columns + ";";
    }

    private static String row(int columns, int v) {
        StringBuilder text = new StringBuilder("row");
        for (int x = 0; x < columns; x++) {
            text.append(' ').append(v);
        }
        return text.append(';').toString();
    }

    // Term I

    private static void lines() {
        DOC.says("I", "TEXT: {LINE ;}.");
        DOC.taken("", 0);
        DOC.taken(Sentences.SMALL, 3);
        DOC.fault(";", 1, 0);
        DOC.fault(Sentences.SMALL + ";", 1, 39);
        DOC.fault(HEAD + ";", 1, 23);
        DOC.fault("table rows 2 columns 2;row 2 1;row 0 3", 1, 38);
        DOC.fault("table rows 2 columns 2 row 2 1;row 0 3;", 1, 23);
        DOC.fault("table rows 2 columns 2;row 2 1 row 0 3;", 1, 31);
        DOC.fault(Sentences.SMALL + "hole 1 0", 1, 47);
    }

    private static void tableIsFirst() {
        DOC.says("I", "table is the first LINE and no other");
        DOC.fault("row 1 1;row 1 1;", 1, 0);
        DOC.fault("hole 0 0;", 1, 0);
        DOC.fault("row 1 1;" + HEAD, 1, 0);
        DOC.fault(HEAD + HEAD, 1, 23);
        DOC.fault(HEAD + "row 1 1;" + HEAD, 1, 31);
        DOC.fault(Sentences.SMALL + HEAD, 1, 39);
        DOC.fault(Sentences.SMALL + Sentences.SMALL, 1, 39);
        DOC.fault(Sentences.SMALL + "hole 1 0;" + HEAD, 1, 48);
    }

    private static void rowsFromTwoToFour() {
        DOC.says("I", "ROWS R 2 .. 4");
        for (int rows = 2; rows <= 4; rows++) {
            String text = head(rows, 2) + "row 0 1;".repeat(rows);
            DOC.taken(text, 1 + rows);
            DOC.due("count(0) of " + text, DOC.told(text).count(0), rows);
        }
        for (int rows : new int[] {0, 1, 5, 6, 10, 24}) {
            DOC.fault(head(rows, 2), 2, 11);
            DOC.fault(head(rows, 2) + "row 0 1;".repeat(rows), 2, 11);
        }
    }

    private static void columnsFromTwoToFour() {
        DOC.says("I", "COLUMNS C 2 .. 4");
        for (int columns = 2; columns <= 4; columns++) {
            String text = head(2, columns) + row(columns, 1) + row(columns, 0);
            DOC.taken(text, 3);
            DOC.due("count(1) of " + text, DOC.told(text).count(1), columns);
        }
        for (int columns : new int[] {0, 1, 5, 6, 10, 24}) {
            DOC.fault(head(2, columns), 2, 21);
            DOC.fault(head(2, columns) + row(columns, 0) + row(columns, 0), 2, 21);
        }
    }

    private static void justSoManyRows() {
        DOC.says("I", "Just R LINES row stand behind it");
        for (int rows = 2; rows <= 4; rows++) {
            for (int told = 0; told < rows; told++) {
                String few = head(rows, 3) + row(3, 0).repeat(told);
                DOC.fault(few, 1, few.length());
                DOC.fault(few + "hole 0 0;", 1, few.length());
            }
            String enough = head(rows, 3) + row(3, 0).repeat(rows);
            DOC.taken(enough, 1 + rows);
            DOC.fault(enough + row(3, 0), 1, enough.length());
            DOC.fault(enough + "hole 1 1;" + row(3, 0), 1, enough.length() + 9);
        }
    }

    private static void justSoManyNumbers() {
        DOC.says("I", "of C numbers N 0 .. 9 each: how many");
        for (int columns = 2; columns <= 4; columns++) {
            String head = head(2, columns);
            DOC.taken(head + row(columns, 1) + row(columns, 0), 3);
            for (int few = 0; few < columns; few++) {
                DOC.fault(head + row(few, 1), 1, head.length() + 3 + 2 * few);
                DOC.fault(head + row(columns, 1) + row(few, 0), 1,
                        head.length() + 4 + 2 * columns + 3 + 2 * few);
            }
            DOC.fault(head + row(columns + 1, 1), 1, head.length() + 4 + 2 * columns);
        }
    }

    private static void numbersFromNoughtToNine() {
        DOC.says("I", "of C numbers N 0 .. 9 each: which");
        for (int v = 0; v <= 9; v++) {
            CountTables x = DOC.told(HEAD + "row 0 " + v + ";row " + v + " 0;");
            DOC.due("cell(0, 1) of " + v, x.cell(0, 1), v);
            DOC.due("cell(1, 0) of " + v, x.cell(1, 0), v);
        }
        for (int v : new int[] {10, 11, 19, 20, 21, 99, 100, 256, 1000}) {
            DOC.fault(HEAD + "row " + v + " 0;row 0 0;", 2, 27);
            DOC.fault(HEAD + "row 0 0;row 0 " + v + ";", 2, 37);
        }
    }

    private static void anyNumberOfHoles() {
        DOC.says("I", "then any number of hole");
        StringBuilder text = new StringBuilder(head(4, 4) + row(4, 0).repeat(4));
        for (int k = 0; k <= 16; k++) {
            DOC.taken(text.toString(), 5 + k);
            DOC.due("count(3) of " + k, DOC.told(text.toString()).count(3), k);
            if (k < 16) {
                text.append("hole ").append(k % 4).append(' ').append(k / 4).append(';');
            }
        }
        // every cell is one: what stands behind them is read all the same
        int at = text.length();
        for (int k = 0; k < 16; k++) {
            DOC.fault(text + "hole " + k / 4 + " " + k % 4 + ";", 2, at + 7);
        }
        DOC.fault(text + "hole 4 0;", 2, at + 5);
        DOC.fault(text + "hole", 1, at + 4);
        DOC.fault(text + ";", 1, at);
        DOC.fault(text + row(4, 0), 1, at);
        DOC.taken(text + " \n", 21);
    }

    private static void holesWithinTheTable() {
        DOC.says("I", "Y a row, X a column (from 0)");
        for (int rows = 2; rows <= 4; rows++) {
            for (int columns = 2; columns <= 4; columns++) {
                String text = head(rows, columns) + row(columns, 0).repeat(rows);
                int at = text.length();
                DOC.taken(text + "hole 0 0;", 2 + rows);
                DOC.taken(text + "hole " + (rows - 1) + " " + (columns - 1) + ";", 2 + rows);
                DOC.fault(text + "hole " + rows + " 0;", 2, at + 5);
                DOC.fault(text + "hole 0 " + columns + ";", 2, at + 7);
                DOC.fault(text + "hole " + rows + " " + columns + ";", 2, at + 5);
                DOC.fault(text + "hole 10 0;", 2, at + 5);
                DOC.fault(text + "hole 0 10;", 2, at + 7);
                DOC.fault(text + "hole;", 1, at + 4);
                DOC.fault(text + "hole 1;", 1, at + 6);
                DOC.fault(text + "hole 1 1 1;", 1, at + 9);
            }
        }
    }

    private static void holesOfNoughtAlone() {
        DOC.says("I", "a HOLE: a cell that is 0 and must be");
        DOC.taken(Sentences.SMALL + "hole 1 0;", 4);
        DOC.fault(Sentences.SMALL + "hole 0 0;", 2, 46);
        DOC.fault(Sentences.SMALL + "hole 0 1;", 2, 46);
        DOC.fault(Sentences.SMALL + "hole 1 1;", 2, 46);
        DOC.fault(Sentences.SMALL + "hole  1  1 ;", 2, 48);
        DOC.fault(Sentences.SMALL + "hole 1 0;hole 1 1;", 2, 55);
    }

    private static void totalOfTwentyAtMost() {
        DOC.says("I", "All N together (TOTAL) are 20 at most");
        DOC.due("TOTAL", DOC.told(HEAD + "row 9 9;row 2 0;").count(2), 20);
        DOC.due("TOTAL", DOC.told(HEAD + "row 9 9;row 0 2;").count(2), 20);
        DOC.due("TOTAL", DOC.told(head(4, 4) + row(4, 1).repeat(3) + "row 8 0 0 0;").count(2), 20);
        DOC.due("TOTAL", DOC.told(Sentences.NOUGHT).count(2), 0);
        DOC.fault(HEAD + "row 9 9;row 3 0;", 2, 35);
        DOC.fault(HEAD + "row 9 9;row 2 1;", 2, 37);
        DOC.fault(HEAD + "row 9 9;row 9 9;", 2, 35);
        DOC.fault(head(2, 3) + "row 9 9 3;row 0 0 0;", 2, 31);
        // twenty are in the first row: each number behind it is one too many, noughts are not
        for (int k = 0; k < 12; k++) {
            StringBuilder text = new StringBuilder(head(4, 4) + "row 9 9 1 1;");
            int place = 0;
            for (int i = 0; i < 12; i++) {
                text.append(i % 4 == 0 ? "row " : " ");
                place = i == k ? text.length() : place;
                text.append(i >= k ? 1 : 0).append(i % 4 == 3 ? ";" : "");
            }
            DOC.fault(text.toString(), 2, place);
        }
    }

    private static void blanks() {
        DOC.says("I", "TOKENS, blanks (32, 10) aside");
        DOC.taken("\n \ntable \n rows\n2 columns\n2 ;\nrow 2 1\n;row 0 3; \n", 3);
        for (char sign : new char[] {0, 1, 8, 9, 11, 12, 13, 31, 33, 127, 128, 133, 160, 255}) {
            DOC.fault(sign + Sentences.SMALL, 1, 0);
            DOC.fault(HEAD + "row 2" + sign + "1;row 0 3;", 1, 28);
            DOC.fault(Sentences.SMALL + sign, 1, 39);
            DOC.fault(String.valueOf(sign), 1, 0);
        }
    }

    private static void longestTokens() {
        DOC.says("I", "the longest: words (a .. z), numbers (digits)");
        DOC.taken("table rows2columns2;row2 1;row0 3;hole1 0;", 4);
        DOC.fault("tablerows 2 columns 2;", 1, 0);
        DOC.fault("table rows 22 columns 2;", 2, 11);
        DOC.fault(HEAD + "row 21;", 2, 27);
        DOC.fault(HEAD + "row 01;", 1, 29);
        DOC.fault(HEAD + "rows 2 1;", 1, 23);
        DOC.fault(HEAD + "ro 2 1;", 1, 23);
        DOC.fault(HEAD + "r ow 2 1;", 1, 23);
        DOC.fault(Sentences.SMALL + "hole 10;", 2, 44);
        DOC.fault("table rows 2 columns 2x;", 1, 22);
    }

    private static void signsBesideTokens() {
        DOC.says("I", "words (a .. z), numbers (digits), the sign ;");
        // the neighbours of a, z, 0, 9 and ;
        for (char sign : new char[] {'`', '{', '/', ':', '<', 'A', 'Z', '-', '+', ',', '.'}) {
            DOC.fault(sign + Sentences.SMALL, 1, 0);
            DOC.fault("tabl" + sign + " rows 2 columns 2;", 1, 0);
            DOC.fault("table" + sign + " rows 2 columns 2;", 1, 5);
            DOC.fault(HEAD + "row " + sign + "1 1;", 1, 27);
            DOC.fault(HEAD + "row 1" + sign + " 1;", 1, 28);
            DOC.fault(HEAD + "row 1 1" + sign, 1, 30);
        }
    }

    private static void firstFault() {
        DOC.says("I", "FAULTS, the first by its place (a TOKEN's first byte; the end's)");
        DOC.fault("table rows 9 columns 9;row 99 99;", 2, 11);
        DOC.fault("table rows 2 columns 9;#", 2, 21);
        DOC.fault("table rows 2 columns # rows 9", 1, 21);
        DOC.fault(HEAD + "row 10 #;", 2, 27);
        DOC.fault(HEAD + "row # 10;", 1, 27);
        DOC.fault(HEAD + "row 9 9;row 3 #", 2, 35);
        DOC.fault(HEAD + "row 9 9;row # 3", 1, 35);
        DOC.fault(Sentences.SMALL + "hole 5 5;", 2, 44);
        DOC.fault(Sentences.SMALL + "hole # 5;", 1, 44);
        DOC.fault(Sentences.SMALL + "hole 1 1 #", 2, 46);
        DOC.fault(HEAD + "row 1 1;row 21", 2, 35);
    }

    private static void leastFaultOfOnePlace() {
        DOC.says("I", "of one place the least");
        // each number is out of any bounds, and can't stand there at all
        DOC.fault("99", 1, 0);
        DOC.fault("table 99 2 columns 2;", 1, 6);
        DOC.fault("table rows 2 99 2;", 1, 13);
        DOC.fault("table rows 2 columns 2 99;", 1, 23);
        DOC.fault(HEAD + "99 1;", 1, 23);
        DOC.fault(HEAD + "row 9 9 99;", 1, 31);
        DOC.fault(Sentences.SMALL + "99", 1, 39);
        DOC.fault(Sentences.SMALL + "hole 1 0 99;", 1, 48);
    }

    private static void placeOfTheEnd() {
        DOC.says("I", "a TOKEN's first byte; the end's");
        String whole = Sentences.SMALL + "hole 1 0;";
        int[] ends = {5, 10, 12, 20, 22, 26, 28, 30, 34, 36, 38, 43, 45, 47};
        for (int end : ends) {
            DOC.fault(whole.substring(0, end), 1, end);
            DOC.fault(whole.substring(0, end) + " \n", 1, end + 2);
        }
        DOC.fault(HEAD, 1, 23);
        DOC.fault(HEAD + "row 2 1;", 1, 31);
        // the whole tape of 300 bytes is read, and its end is the place behind it
        DOC.fault(HEAD + " ".repeat(277), 1, 300);
        DOC.taken(Sentences.SMALL + " ".repeat(261), 3);
        DOC.taken(" ".repeat(261) + Sentences.SMALL, 3);
        DOC.fault(" ".repeat(299) + "x", 1, 299);
    }

    private static void misplacedTokens() {
        DOC.says("I", "1 a TOKEN that is none, or can't stand there");
        String[] tokens = {"table", "rows", "2", "columns", "2", ";", "row", "2", "1", ";", "row", "0",
            "3", ";", "hole", "1", "0", ";"};
        String[] others = {"table", "rows", "columns", "row", "hole", "x", ";", "1", "#"};
        for (int k = 0; k < tokens.length; k++) {
            StringBuilder before = new StringBuilder();
            for (int i = 0; i < k; i++) {
                before.append(tokens[i]).append(' ');
            }
            for (String other : others) {
                boolean number = Character.isDigit(tokens[k].charAt(0));
                boolean fits = number ? other.equals("1") : other.equals(tokens[k]);
                if (!fits) {
                    DOC.fault(before + other + " ;", 1, before.length());
                }
            }
        }
    }

    private static void wordsOffByALetter() {
        DOC.says("I", "1 a TOKEN that is none, or can't stand there: words");
        String whole = Sentences.SMALL + "hole 1 0;";
        for (String word : new String[] {"table", "rows", "columns", "row 2", "row 0", "hole"}) {
            int at = whole.indexOf(word);
            int length = word.indexOf(' ') < 0 ? word.length() : word.indexOf(' ');
            String before = whole.substring(0, at);
            String behind = whole.substring(at + length);
            String own = word.substring(0, length);
            for (int i = 0; i < length; i++) {
                String start = own.substring(0, i);
                String rest = own.substring(i + 1);
                DOC.fault(before + start + (own.charAt(i) == 'z' ? 'a' : 'z') + rest + behind, 1, at);
                DOC.fault(before + start + rest + behind, 1, at);
            }
            // the last letter of a .. z and the first: they belong to the word, which is none then
            DOC.fault(before + own + "z" + behind, 1, at);
            DOC.fault(before + own + "a" + behind, 1, at);
            DOC.fault(before + "z" + own + behind, 1, at);
            DOC.fault(before + "a" + own + behind, 1, at);
            DOC.taken(before + own + "\n" + behind, 4);
        }
    }

    private static void numbersThatWouldWrap() {
        DOC.says("I", "2 a number out of its bounds");
        BigInteger two = BigInteger.TWO;
        for (int bits : new int[] {8, 16, 31, 32, 63, 64, 128, 256}) {
            String wrapped = two.pow(bits).add(two).toString();
            DOC.fault("table rows " + wrapped + " columns 2;", 2, 11);
            DOC.fault("table rows 2 columns " + wrapped + ";", 2, 21);
            DOC.fault(HEAD + "row " + wrapped + " 0;", 2, 27);
            DOC.fault(HEAD + "row 9 9;row 0 " + wrapped + ";", 2, 37);
            String nought = two.pow(bits).toString();
            DOC.fault(Sentences.SMALL + "hole " + nought + " 0;", 2, 44);
            DOC.fault(Sentences.SMALL + "hole 1 " + nought + ";", 2, 46);
        }
        DOC.fault(HEAD + "row 1" + "0".repeat(250) + " 0;", 2, 27);
        DOC.taken(HEAD + "row " + "0".repeat(200) + "9 0;row 0 0;", 3);
    }

    private static void holeToldAlready() {
        DOC.says("I", "a HOLE told already (at X)");
        DOC.fault(Sentences.SMALL + "hole 1 0;hole 1 0;", 2, 55);
        DOC.fault(Sentences.NOUGHT + "hole 1 0;hole 0 1;hole 1 0;", 2, 64);
        DOC.fault(Sentences.NOUGHT + "hole 0 0;hole 0  0", 2, 56);
        DOC.taken(Sentences.NOUGHT + "hole 1 0;hole 0 1;hole 0 0;hole 1 1;", 7);
        // told of another text, or by one with a fault: not told already
        CountTables x = DOC.told(Sentences.SMALL + "hole 1 0;");
        Texts.feed(x, Sentences.SMALL + "hole 1 0;hole 1 0;");
        DOC.due("table() told twice", x.table(), -4);
        Texts.feed(x, Sentences.SMALL + "hole 1 0;");
        DOC.due("table() told anew", x.table(), 4);
    }

    // Term II

    private static void ranksFromNought() {
        DOC.says("II", "They have RANKS from 0");
        CountTables one = DOC.told(Sentences.NOUGHT);
        DOC.due("tables()", one.tables(), 1);
        DOC.due("rank() of the only one", one.rank(), 0);
        DOC.due("of(0, 1, 1)", one.of(0, 1, 1), 0);
        DOC.due("of(1, 1, 1)", one.of(1, 1, 1), -2);
        CountTables first = DOC.told(HEAD + "row 0 3;row 2 1;");
        DOC.due("rank() of the first", first.rank(), 0);
        DOC.due("rank() of the last", DOC.told(Sentences.SMALL).rank(), 2);
        CountTables great = DOC.told(head(4, 4) + "row 0 0 0 5;row 0 0 5 0;row 0 5 0 0;row 5 0 0 0;");
        DOC.due("rank() of the first of all", great.rank(), 0);
        DOC.due("rank() of the last of all", DOC.told(Sentences.GREAT).rank(), 40175);
    }

    private static void orderOfCells() {
        DOC.says("II", "the first cell that is unlike tells, the lesser ahead");
        // the first cell goes from 0 to 14, and with it the others: no order by signs
        CountTables x = DOC.told(HEAD + "row 9 5;row 5 1;");
        DOC.due("tables()", x.tables(), 9 + 5 + 1 - 8);
        for (int rank = 0; rank < 7; rank++) {
            DOC.due("of(" + rank + ", 0, 0)", x.of(rank, 0, 0), 8 + rank);
            DOC.due("of(" + rank + ", 1, 1)", x.of(rank, 1, 1), rank);
        }
        // 9 in the first cell: 5 to 9 ahead of it, each by one swap
        CountTables y = DOC.told(HEAD + "row 9 0;row 0 9;");
        for (int v = 9; v >= 0; v--) {
            DOC.due("rank() with " + v, y.rank(), v);
            DOC.due("classOf by " + v, y.classOf(v), 0);
            DOC.due("apart by " + v, y.apart(9, v), 9 - v);
            y.swap(0, 1, 1, 0);
        }
        // no cell ahead of (1, 1) is unlike: that one tells, whatever stands behind it
        CountTables z = DOC.told(head(3, 3) + "row 1 1 1;row 0 1 1;row 0 1 0;");
        long own = z.rank();
        DOC.due("swap to more in (1, 1)", z.swap(1, 2, 1, 2), 0);
        DOC.due("of the next rank", z.of(own + 1, 1, 1), 2);
        DOC.due("rank() is the next one", z.rank(), own + 1);
    }

    private static void holesStayNought() {
        DOC.says("II", "cells 0 or more, HOLES 0");
        CountTables free = DOC.told(HEAD + "row 0 1;row 1 0;");
        DOC.due("tables() without a hole", free.tables(), 2);
        for (String hole : new String[] {"hole 0 0;", "hole 1 1;", "hole 0 0;hole 1 1;"}) {
            CountTables x = DOC.told(HEAD + "row 0 1;row 1 0;" + hole);
            DOC.due("tables() with " + hole, x.tables(), 1);
            DOC.due("most(0, 0) with " + hole, x.most(0, 0), 0);
            DOC.due("least(0, 1) with " + hole, x.least(0, 1), 1);
        }
    }

    // Term III

    private static void weightOfNought() {
        DOC.says("III", "in how many ways its sum can be laid out into its cells");
        DOC.due("weight() of nought", DOC.told(Sentences.NOUGHT).weight(), 1);
        DOC.due("weights() of nought", DOC.told(Sentences.NOUGHT).weights(), 1);
        DOC.due("weight() beside a row of nought",
                DOC.told(HEAD + "row 0 0;row 1 2;").weight(), 3);
        // 20! / 9! 9! 2! of one row: the factorials go beyond an int
        CountTables x = DOC.told(head(2, 3) + "row 9 9 2;row 0 0 0;");
        DOC.due("weight() of twenty in a row", x.weight(), 9237800);
        DOC.due("weights() of twenty in a row", x.weights(), 9237800);
        CountTables y = DOC.told(head(2, 4) + "row 5 5 5 5;row 0 0 0 0;");
        DOC.due("weight() of four fives", y.weight(), 11732745024L);
    }

    private static void sumsThatAreNought() {
        DOC.says("III", "cells, whose row and column have no sum 0; all sums that are not 0");
        DOC.due("statistic(1) of nought", DOC.told(Sentences.NOUGHT).statistic(1), 0);
        // sums 3; 1, 2: product 6: 1 * 6 / 3 and 4 * 6 / 6
        DOC.due("statistic(1), a row of nought",
                DOC.told(HEAD + "row 0 0;row 1 2;").statistic(1), 6);
        DOC.due("statistic(1), a column of nought",
                DOC.told(HEAD + "row 0 1;row 0 2;").statistic(1), 6);
        DOC.due("statistic(1), one cell alone",
                DOC.told(HEAD + "row 0 0;row 0 7;").statistic(1), 49);
        DOC.due("statistic(1) of the largest", DOC.told(Sentences.GREAT).statistic(1), 1562500);
    }

    private static void mostThatAnyCellIs() {
        DOC.says("III", "3 the most that any cell is");
        DOC.due("statistic(3) of nought", DOC.told(Sentences.NOUGHT).statistic(3), 0);
        CountTables x = DOC.told(HEAD + "row 9 5;row 5 1;");
        for (int v = 9; v <= 14; v++) {
            DOC.due("statistic(3) of " + v, x.statistic(3), v);
            DOC.due("extreme(3) of " + v, x.extreme(3), 15 - v);
            DOC.due("swap from " + v, x.swap(0, 1, 0, 1), v < 14 ? 0 : -5);
        }
    }

    private static void farOutOrFarther() {
        DOC.says("III", "by 0, if it has not more; by 1, 2, 3, if it has not less");
        // weights 3, 9, 3; 108, 72, 108; 14, 15, 16; 3, 2, 3: the like ones count
        CountTables x = DOC.told(Sentences.SMALL);
        long[][] due = {{2, 2, 1, 2}, {3, 3, 2, 3}, {2, 2, 3, 2}};
        for (int step = 0; step < 3; step++) {
            for (int which = 0; which < 4; which++) {
                DOC.due("extreme(" + which + ")", x.extreme(which), due[step][which]);
            }
            x.swap(0, 1, 1, 0);
        }
        CountTables alike = DOC.told(Sentences.PLACES);
        DOC.due("extreme(0), all alike", alike.extreme(0), 6);
        DOC.due("extreme(1), all alike", alike.extreme(1), 6);
        DOC.due("extreme(3), all alike", alike.extreme(3), 6);
        DOC.due("extreme(2), the farthest itself", alike.extreme(2), 1);
        CountTables one = DOC.told(Sentences.NOUGHT);
        for (int which = 0; which < 4; which++) {
            DOC.due("extreme(" + which + ") of the only one", one.extreme(which), 1);
            DOC.due("share above of the only one", one.share(which, 0), 1);
            DOC.due("share below of the only one", one.share(which, 1), 1);
        }
    }

    private static void bySumsOfNought() {
        DOC.says("III", "0, if TOTAL is 0");
        for (String text : new String[] {Sentences.NOUGHT, Sentences.NOUGHT + "hole 0 1;",
            head(4, 4) + row(4, 0).repeat(4)}) {
            CountTables x = DOC.told(text);
            DOC.due("chi()", x.chi(), 0);
            DOC.due("excess(0, 0)", x.excess(0, 0), 0);
            DOC.due("excess(0, 1)", x.excess(0, 1), 0);
            DOC.due("excess(1, 1)", x.excess(1, 1), 0);
        }
    }

    private static void chiAboveNoughtAlone() {
        DOC.says("III", "over cells, row by row, for which that (a double) is above 0");
        // a row and a column of nought aside: 2, 0 and 0, 1 of sums 2, 1 and 2, 1
        CountTables x = DOC.told(head(3, 3) + "row 2 0 0;row 0 0 0;row 0 0 1;");
        double a = 4.0 / 3.0;
        double b = 2.0 / 3.0;
        double c = 1.0 / 3.0;
        double sum = (2 - a) * (2 - a) / a;
        sum = sum + (0 - b) * (0 - b) / b;
        sum = sum + (0 - b) * (0 - b) / b;
        sum = sum + (1 - c) * (1 - c) / c;
        DOC.due("chi()", x.chi(), Double.doubleToLongBits(sum));
        DOC.due("excess() in the row of nought", x.excess(1, 0), 0);
        DOC.due("excess() in the column of nought", x.excess(2, 1), 0);
        DOC.due("chi() of one line", DOC.told(HEAD + "row 0 0;row 1 2;").chi(), 0);
    }

    private static void holesCountInChi() {
        DOC.says("III", "A HOLE counts there as any other cell.");
        // each cell would be 1 / 2: told 0 1 / 1 0, with and without holes
        String text = HEAD + "row 0 1;row 1 0;";
        for (String holes : new String[] {"", "hole 0 0;", "hole 0 0;hole 1 1;"}) {
            CountTables x = DOC.told(text + holes);
            DOC.due("chi() with " + holes, x.chi(), Double.doubleToLongBits(2.0));
            DOC.due("excess(0, 0) with " + holes, x.excess(0, 0), Float.floatToIntBits(-0.5f));
        }
    }

    // Term IV

    private static void noCellBelowNought() {
        DOC.says("IV", "it can be done, if no cell is below 0 then");
        // less in (0, 1) and (1, 0): both must be 1 at least
        int[][] less = {{0, 0}, {0, 1}, {1, 0}, {1, 1}, {2, 1}, {9, 0}};
        for (int[] v : less) {
            CountTables x = DOC.told(HEAD + "row 0 " + v[0] + ";row " + v[1] + " 0;");
            boolean can = v[0] > 0 && v[1] > 0;
            String of = " of " + v[0] + ", " + v[1];
            DOC.due("swaps()" + of, x.swaps(), can ? 1 : 0);
            DOC.due("swap()" + of, x.swap(0, 1, 0, 1), can ? 0 : -5);
            DOC.due("cell(0, 1)" + of, x.cell(0, 1), can ? v[0] - 1 : v[0]);
            DOC.due("cell(1, 0)" + of, x.cell(1, 0), can ? v[1] - 1 : v[1]);
            DOC.due("count(4)" + of, x.count(4), can ? 1 : 0);
        }
    }

    private static void noneOfTheFourIsAHole() {
        DOC.says("IV", "none of the four is a HOLE");
        // 1 more in (0, 0) and (1, 1), 1 less in (0, 1) and (1, 0); a third column keeps all loose
        int[][] holes = {{0, 0}, {1, 1}, {0, 1}, {1, 0}};
        for (int[] hole : holes) {
            StringBuilder text = new StringBuilder(head(2, 3));
            for (int y = 0; y < 2; y++) {
                text.append("row");
                for (int x = 0; x < 3; x++) {
                    text.append(y == hole[0] && x == hole[1] ? " 0" : " 1");
                }
                text.append(';');
            }
            CountTables free = DOC.told(text.toString());
            CountTables x = DOC.told(text + "hole " + hole[0] + " " + hole[1] + ";");
            boolean more = hole[0] == hole[1];
            DOC.due("swap() without the hole", free.swap(0, 1, 0, 1), more ? 0 : -5);
            DOC.due("swap() with the hole", x.swap(0, 1, 0, 1), -5);
            DOC.due("the other way", x.swap(1, 0, 0, 1), -5);
            DOC.due("count(4)", x.count(4), 0);
            DOC.due("the hole stays", x.cell(hole[0], hole[1]), 0);
            // the column of the hole is fixed, the two others swap both ways
            DOC.due("swaps()", x.swaps(), 2);
            DOC.due("tables()", x.tables(), 3);
            DOC.due("classes()", x.classes(), 1);
        }
    }

    private static void choicesThatStay() {
        DOC.says("IV", "its SWAP is done, if it can be, else the TABLE stays");
        CountTables one = DOC.told(Sentences.NOUGHT);
        DOC.due("ways(1, 0): all 4 choices stay", one.ways(1, 0), 4);
        CountTables turning = DOC.told(Sentences.TURNING);
        DOC.due("ways(1, 1): all 36 choices stay", turning.ways(1, 1), 36);
        DOC.due("ways(1, 0)", turning.ways(1, 0), 0);
        CountTables small = DOC.told(Sentences.SMALL);
        DOC.due("ways(1, 2): two of four stay", small.ways(1, 2), 2);
        DOC.due("ways(1, 1): two go", small.ways(1, 1), 2);
    }

    private static void turnsOfThree() {
        DOC.says("IV", "TURN: of three unlike rows r, s, t and columns c, d, e");
        DOC.due("classes() by swaps", DOC.told(Sentences.TURNING).classes(), 2);
        DOC.due("joined() by turns", DOC.told(Sentences.TURNING).joined(), 1);
        // every ring in any three of four rows and columns, told by either of its two tables
        for (int row = 0; row < 4; row++) {
            for (int column = 0; column < 4; column++) {
                for (int[] order : orders(3)) {
                    for (int turn = 1; turn <= 2; turn++) {
                        CountTables x = DOC.told(ringBeside(row, column, order, turn));
                        DOC.due("tables() beside " + row + ", " + column, x.tables(), 2);
                        DOC.due("classes() beside " + row + ", " + column, x.classes(), 2);
                        DOC.due("joined() beside " + row + ", " + column, x.joined(), 1);
                    }
                }
            }
        }
        // fewer than three rows or columns have no turn
        DOC.due("joined() of two rows", DOC.told(Sentences.SMALL).joined(), 1);
        DOC.due("joined() of two columns", DOC.told(head(4, 2) + "row 1 0;row 0 1;".repeat(2)
                + "hole 0 1;hole 1 0;").joined(), 1);
    }

    /** All orders of 0 .. n - 1, each as a row. */
    private static List<int[]> orders(int n) {
        List<int[]> all = new ArrayList<>();
        if (n == 0) {
            all.add(new int[0]);
            return all;
        }
        for (int[] fewer : orders(n - 1)) {
            for (int at = 0; at < n; at++) {
                int[] one = new int[n];
                for (int i = 0; i < n; i++) {
                    one[i] = i == at ? n - 1 : fewer[i < at ? i : i - 1];
                }
                all.add(one);
            }
        }
        return all;
    }

    /** Three rows and columns that can only turn; the row and the column told are nought. */
    private static String ringBeside(int row, int column, int[] order, int turn) {
        StringBuilder text = new StringBuilder(head(4, 4));
        StringBuilder holes = new StringBuilder();
        for (int y = 0; y < 4; y++) {
            text.append("row");
            for (int x = 0; x < 4; x++) {
                int i = y < row ? y : y - 1;
                int k = x < column ? x : x - 1;
                boolean inside = y != row && x != column;
                text.append(inside && order[k] == (i + turn) % 3 ? " 1" : " 0");
                if (inside && order[k] == i) {
                    holes.append("hole ").append(y).append(' ').append(x).append(';');
                }
            }
            text.append(';');
        }
        return text.append(holes).toString();
    }

    private static void turnsUnderLikeTerms() {
        DOC.says("IV", "1 less in r and d, s and e, t and c (under like terms)");
        // four in a ring, through the rows and columns in any order: each turn of three would
        // touch a hole
        int[] counts = {1, 2};
        for (int[] rows : orders(4)) {
            for (int[] columns : orders(4)) {
                for (int count : counts) {
                    CountTables ring = DOC.told(ringOfFour(rows, columns, count));
                    DOC.due("tables() of a ring of four", ring.tables(), 1 + count);
                    DOC.due("classes() of a ring of four", ring.classes(), 1 + count);
                    DOC.due("joined() of a ring of four", ring.joined(), 1 + count);
                }
            }
        }
        // one free cell more, and a swap and a turn lead round
        CountTables cut = DOC.told("table rows 4 columns 4;row 1 0 0 0;row 0 1 0 0;row 0 0 1 0;"
                + "row 0 0 0 1;hole 0 3;hole 1 0;hole 1 3;hole 2 0;hole 2 1;hole 3 1;hole 3 2;");
        DOC.due("joined() of a ring that is cut", cut.joined(), 1);
        // a ring of three with 2 and 1 in it: four tables in a row by turns, none by swaps
        CountTables deep = DOC.told("table rows 3 columns 3;row 0 2 1;row 1 0 2;row 2 1 0;"
                + "hole 0 0;hole 1 1;hole 2 2;");
        DOC.due("tables() of a deep ring", deep.tables(), 4);
        DOC.due("classes() of a deep ring", deep.classes(), 4);
        DOC.due("joined() of a deep ring", deep.joined(), 1);
    }

    /** Row i of the order may have its own column and the next one's; all is in its own. */
    private static String ringOfFour(int[] rows, int[] columns, int count) {
        int[][] cells = new int[4][4];
        boolean[][] free = new boolean[4][4];
        for (int i = 0; i < 4; i++) {
            cells[rows[i]][columns[i]] = count;
            free[rows[i]][columns[i]] = true;
            free[rows[i]][columns[(i + 1) % 4]] = true;
        }
        StringBuilder text = new StringBuilder(Texts.of(cells));
        for (int k = 0; k < 16; k++) {
            if (!free[k / 4][k % 4]) {
                text.append("hole ").append(k / 4).append(' ').append(k % 4).append(';');
            }
        }
        return text.toString();
    }

    private static void listedToAThousand() {
        DOC.says("IV", "LISTED: the FIBER has 1,000 TABLES at most.");
        CountTables last = DOC.told(Sentences.THOUSAND);
        DOC.due("tables()", last.tables(), 1000);
        DOC.due("classes()", last.classes(), 1);
        DOC.due("joined()", last.joined(), 1);
        DOC.due("classOf(999)", last.classOf(999), 0);
        DOC.due("sized(999)", last.sized(999), 1000);
        DOC.due("apart(999, 999)", last.apart(999, 999), 0);
        DOC.due("within(40)", last.within(40), 1000);
        DOC.due("ways(0, own)", last.ways(0, (int) last.rank()), 1);
        CountTables first = DOC.told(Sentences.ONE_MORE);
        DOC.due("tables()", first.tables(), 1001);
        DOC.due("classes()", first.classes(), -3);
        DOC.due("joined()", first.joined(), -3);
        DOC.due("classOf(0)", first.classOf(0), -3);
        DOC.due("sized(0)", first.sized(0), -3);
        DOC.due("apart(0, 0)", first.apart(0, 0), -3);
        DOC.due("far()", first.far(), -3);
        DOC.due("farthest()", first.farthest(), -3);
        DOC.due("within(40)", first.within(40), -3);
        DOC.due("ways(0, 0)", first.ways(0, 0), -3);
        // listed again, with nothing left of the one before
        Texts.feed(first, Sentences.SMALL);
        DOC.due("table()", first.table(), 3);
        DOC.due("classes() listed again", first.classes(), 1);
    }

    // Term V

    private static void evenlyIsCut() {
        DOC.says("V", "EVENLY is 1,073,741,824 divided by how many TABLES there are (cut)");
        String[] texts = {Sentences.NOUGHT, Sentences.TURNING, Sentences.SMALL, Sentences.PLACES,
            Sentences.THOUSAND, Sentences.ONE_MORE, Sentences.GREAT};
        int[] due = {1073741824, 536870912, 357913941, 178956970, 1073741, 1072669, 26725};
        for (int i = 0; i < texts.length; i++) {
            DOC.due("evenly() of " + texts[i], DOC.told(texts[i]).evenly(), due[i]);
        }
    }

    private static void wordsBelowEvenly() {
        DOC.says("V", "the RANK w modulo how many there are, if w is below EVENLY times them");
        int[] tables = {1, 2, 3, 6, 1000, 1001, 40176};
        String[] texts = {Sentences.NOUGHT, Sentences.TURNING, Sentences.SMALL, Sentences.PLACES,
            Sentences.THOUSAND, Sentences.ONE_MORE, Sentences.GREAT};
        for (int i = 0; i < texts.length; i++) {
            CountTables x = DOC.told(texts[i]);
            long all = tables[i];
            int first = (int) (1073741824 / all * all - 1);
            DOC.due("drawn(0)", x.drawn(0), 0);
            DOC.due("drawn(all - 1)", x.drawn((int) all - 1), all - 1);
            DOC.due("drawn(all), anew from 0", x.drawn((int) all), 0);
            DOC.due("the last word that draws", x.drawn(first), all - 1);
            if (first < 1073741823) {
                DOC.due("the first that draws none", x.drawn(first + 1), -1);
                DOC.due("the last word draws none", x.drawn(1073741823), -1);
            }
        }
    }

    private static void drawsWrapRound() {
        DOC.says("V", "x becomes (1103515245 x + 12345) modulo 2 to the 31");
        int[] seeds = {0, 1, 2, 65535, 65536, 1073741823, 1073741824, 1999999999, 2000000000};
        for (int seed : seeds) {
            for (int n : new int[] {1, 2, 3, 10, 100, 1000}) {
                for (String text : new String[] {Sentences.SMALL, Sentences.PLACES,
                    Sentences.GREAT, Sentences.ONE_MORE, Sentences.THOUSAND}) {
                    walkStepByStep(text, n, seed);
                }
            }
        }
    }

    /** The words of Term V with numbers that never wrap, on cells of its own. */
    private static void walkStepByStep(String text, int n, int seed) {
        CountTables x = DOC.told(text);
        int rows = x.count(0);
        int columns = x.count(1);
        int[][] cells = new int[rows][columns];
        for (int k = 0; k < rows * columns; k++) {
            cells[k / columns][k % columns] = x.cell(k / columns, k % columns);
        }
        BigInteger state = BigInteger.valueOf(seed);
        int[] of = {rows, rows - 1, columns, columns - 1};
        int[] drawn = new int[4];
        int done = 0;
        for (int i = 0; i < n; i++) {
            for (int k = 0; k < 4; k++) {
                state = state.multiply(BigInteger.valueOf(1103515245))
                        .add(BigInteger.valueOf(12345)).mod(BigInteger.TWO.pow(31));
                drawn[k] = (int) (state.longValueExact() / 65536 % of[k]);
            }
            int r = drawn[0];
            int s = drawn[1] >= r ? drawn[1] + 1 : drawn[1];
            int c = drawn[2];
            int d = drawn[3] >= c ? drawn[3] + 1 : drawn[3];
            if (cells[r][d] > 0 && cells[s][c] > 0 && x.hole(r, c) + x.hole(s, d) == 0) {
                cells[r][c]++;
                cells[s][d]++;
                cells[r][d]--;
                cells[s][c]--;
                done++;
            }
        }
        String name = "walk(" + n + ", " + seed + ") of " + text;
        DOC.due(name, x.walk(n, seed), done);
        for (int k = 0; k < rows * columns; k++) {
            DOC.due(name + ", cell " + k, x.cell(k / columns, k % columns),
                    cells[k / columns][k % columns]);
        }
    }

    private static void othersThanTheFirst() {
        DOC.says("V", "s: a DRAW of R less 1, and 1 more, if that is not below r");
        // single choices; of two rows or columns the DRAW of 1 is 0, and goes on all the same
        for (int seed = 0; seed < 40; seed++) {
            walkStepByStep(HEAD + "row 1 1;row 1 1;", 1, seed);
            walkStepByStep(head(3, 2) + "row 1 1;row 1 1;row 1 1;", 1, seed * 65537);
            walkStepByStep(head(2, 4) + "row 1 1 1 1;row 1 1 1 1;", 1, seed * 1000003);
        }
    }
}
