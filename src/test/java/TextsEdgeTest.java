/** The boundary cases that the document names of the text, and of its fault as a picture. */
public final class TextsEdgeTest extends Edges {
    private static final String TEXTS = "Texts";

    private static void atMost60() {
        PortraitMazes x = new PortraitMazes();
        for (int length = 1; length <= 60; length++) {
            due("type(48)", x.type(48), length);
        }
        due("type(48), the 61st", x.type(48), LIMIT);
        due("count(8)", x.count(8), 60);
        due("clearText()", x.clearText(), 60);
        due("type(48), after that", x.type(48), 1);
    }

    private static void initiallyEmpty() {
        PortraitMazes x = new PortraitMazes();
        due("count(8)", x.count(8), 0);
        due("clearText()", x.clearText(), 0);
    }

    private static void digits() {
        for (char character = ' '; character <= '~'; character++) {
            boolean isDigit = character >= '0' && character <= '9';
            String text = "1" + character + "/34";
            if (isDigit) {
                dueFault(text, NOT_FOUND, NOT_FOUND);
            } else if (character == '/') {
                dueFault(text, 2, 1);
            } else {
                dueFault(text, 1, 1);
            }
        }
        PortraitMazes x = picture("09/90", 4);
        due("cellOf(0, 0)", x.cellOf(0, 0), 0);
        due("cellOf(1, 0)", x.cellOf(1, 0), 9);
        due("cellOf(3, 0)", x.cellOf(3, 0), 0);
    }

    private static void slashBetweenTwo() {
        dueFault("/12/34", 0, 1);
        dueFault("12//34", 3, 1);
        dueFault("12/34/", 6, 1);
        dueFault("12/34", NOT_FOUND, NOT_FOUND);
        dueFault("1234", 4, 4);
    }

    private static void rowsAsLongAsTheFirst() {
        dueFault("123/456/789", NOT_FOUND, NOT_FOUND);
        dueFault("123/45/789", 6, 1);
        dueFault("123/4567/789", 7, 1);
        dueFault("123/456/78", 10, 1);
        dueFault("123/456/7890", 11, 1);
        dueFault("12/345/678", 5, 1);
        dueFault(LARGEST, NOT_FOUND, NOT_FOUND);
    }

    private static void rowsAsLongAsTheFirstOfThisText() {
        PortraitMazes x = picture(LARGEST, 36);
        type(x, "12/34");
        due("fault(1) of a smaller one", x.fault(1), NOT_FOUND);
        due("read() of a smaller one", x.read(), 4);
        type(x, "123/456/789");
        due("read() of a larger one", x.read(), 9);
    }

    private static void firstFaultFromTheLeft() {
        dueFault("1x3/4y", 1, 1);
        dueFault("x234567", 0, 1);
        dueFault("1234567x", 6, 2);
        dueFault("12345x7", 5, 1);
        dueFault("1234567/1/", 6, 2);
        dueFault("1/2x", 3, 1);
        dueFault("1/2/3/4/5/6/7/8", 11, 3);
        dueFault("12/3x/", 4, 1);
        dueFault("12/34/56/78/90/1x/", 16, 1);
        dueFault("12/34/56/78/90/12/x", 17, 3);
    }

    private static void characterInAnyRow() {
        dueFault("x", 0, 1);
        dueFault("12x", 2, 1);
        dueFault("123456x", 6, 1);
        dueFault("12/x", 3, 1);
        dueFault("12/3x", 4, 1);
        dueFault("12/34x", 5, 1);
        dueFault(LARGEST + "x", 41, 1);
    }

    private static void slashInPlaceOfADigit() {
        dueFault("/", 0, 1);
        dueFault("12//", 3, 1);
        dueFault("12/3/", 4, 1);
        dueFault("12/34/56/78/90/1/", 16, 1);
        dueFault("12/34/56/78/90//", 15, 1);
    }

    private static void digitBehindAFullRow() {
        dueFault("12/345", 5, 1);
        dueFault("1/23", 3, 1);
        dueFault("123456/1234567", 13, 1);
        dueFault(LARGEST + "7", 41, 1);
        dueFault("12/34/567", 8, 1);
    }

    private static void endWithinARow() {
        dueFault("12/3", 4, 1);
        dueFault("123456/12345", 12, 1);
        dueFault(LARGEST.substring(0, 40), 40, 1);
    }

    private static void endWithinTheFirstRow() {
        dueFault("1", 1, 4);
        dueFault("12", 2, 4);
        dueFault("12345", 5, 4);
    }

    private static void endBehindASlash() {
        dueFault("12/", 3, 1);
        dueFault("1/", 2, 1);
        dueFault("12/34/56/78/90/", 15, 1);
    }

    private static void emptyText() {
        dueFault("", 0, 1);
        PortraitMazes x = new PortraitMazes();
        type(x, "12/34");
        x.clearText();
        due("fault(0) after clearText()", x.fault(0), 0);
        due("fault(1) after clearText()", x.fault(1), 1);
        due("read()", x.read(), NOT_POSSIBLE);
    }

    private static void seventhDigitOfTheFirstRow() {
        dueFault("123456", 6, 4);
        dueFault("1234567", 6, 2);
        dueFault("12345678", 6, 2);
        dueFault("123456/123456", NOT_FOUND, NOT_FOUND);
        dueFault("1234567/1234567", 6, 2);
    }

    private static void slashBehindTheSixthRow() {
        dueFault("12/34/56/78/90", NOT_FOUND, NOT_FOUND);
        dueFault("12/34/56/78/90/12", NOT_FOUND, NOT_FOUND);
        dueFault("12/34/56/78/90/12/", 17, 3);
        dueFault("12/34/56/78/90/12/34", 17, 3);
        dueFault(LARGEST + "/", 41, 3);
    }

    private static void justOneColumn() {
        dueFault("1/2", 3, 4);
        dueFault("1/2/3/4/5/6", 11, 4);
    }

    private static void justOneRow() {
        dueFault("12", 2, 4);
        dueFault("123456", 6, 4);
        dueFault("1", 1, 4);
    }

    private static void otherFaultsBeforeOneColumnOrRow() {
        dueFault("1/2/", 4, 1);
        dueFault("1/23", 3, 1);
        dueFault("1/2/3/4/5/6/", 11, 3);
        dueFault("12x", 2, 1);
        dueFault("1234567", 6, 2);
    }

    public static void main(String[] args) {
        edge(TEXTS, "at most 60 characters", "full", TextsEdgeTest::atMost60);
        edge(TEXTS, "initially empty", "empty", TextsEdgeTest::initiallyEmpty);
        edge(TEXTS, "rows of digits (tones)", "all characters", TextsEdgeTest::digits);
        edge(TEXTS, "with \"/\" between two", "before, behind, twice, none", TextsEdgeTest::slashBetweenTwo);
        edge(TEXTS, "all of them as long as the first one", "shorter, longer", TextsEdgeTest::rowsAsLongAsTheFirst);
        edge(TEXTS, "all of them as long as the first one", "after another text",
            TextsEdgeTest::rowsAsLongAsTheFirstOfThisText);
        edge(TEXTS, "the first one from the left", "several faults", TextsEdgeTest::firstFaultFromTheLeft);
        String place = "1: a character that cannot stand at its place";
        edge(TEXTS, place, "no digit", TextsEdgeTest::characterInAnyRow);
        edge(TEXTS, place, "\"/\"", TextsEdgeTest::slashInPlaceOfADigit);
        edge(TEXTS, "also of a digit behind a row that is as long as the first one", "one more",
            TextsEdgeTest::digitBehindAFullRow);
        edge(TEXTS, "within a row that is not the first", "one less", TextsEdgeTest::endWithinARow);
        edge(TEXTS, "within a row that is not the first", "the first", TextsEdgeTest::endWithinTheFirstRow);
        edge(TEXTS, "or behind \"/\"", "no row", TextsEdgeTest::endBehindASlash);
        edge(TEXTS, "or if it is empty", "empty", TextsEdgeTest::emptyText);
        edge(TEXTS, "2: the seventh digit of the first row", "six to eight", TextsEdgeTest::seventhDigitOfTheFirstRow);
        edge(TEXTS, "3: the \"/\" behind the sixth row", "five to seven", TextsEdgeTest::slashBehindTheSixthRow);
        edge(TEXTS, "4: the picture has just one column or row", "column", TextsEdgeTest::justOneColumn);
        edge(TEXTS, "4: the picture has just one column or row", "row", TextsEdgeTest::justOneRow);
        edge(TEXTS, "if there is none of the others", "others", TextsEdgeTest::otherFaultsBeforeOneColumnOrRow);
        end();
    }
}
