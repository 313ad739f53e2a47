import java.util.ArrayList;
import java.util.List;

/**
 * A TEXT once more, in another way than the class: one walk over the words finds the FAULT (what may
 * come next depends only on what is open), and what it gives is worked out by cutting the row of
 * words at its loosest sign.
 */
final class PlainText {
    private static final String[] KEYS = {"hay", "fee", "fine"};
    private static final String[] NAMES = {"hpw", "dt", "wh"};
    private static final String[] LEVELS = {"|", "&", "<=>", "+-", "*/"};

    final List<String> words = new ArrayList<>();
    private final List<Integer> places = new ArrayList<>();
    private final int length;
    int key = -1;
    final int fault;

    PlainText(List<Byte> tape) {
        length = tape.size();
        StringBuilder all = new StringBuilder();
        for (byte b : tape) {
            all.append((char) (b & 255));
        }
        java.util.regex.Matcher m = java.util.regex.Pattern.compile("[a-z]+|[0-9]+|[^ ]", java.util.regex.Pattern.DOTALL)
            .matcher(all);
        while (m.find()) {
            words.add(m.group());
            places.add(m.start());
        }
        fault = findFault();
    }

    private static boolean isWord(String word) {
        return word.matches("[a-z]+|[0-9]+");
    }

    private int findFault() {
        boolean pieceIsDue = true;
        boolean mayCompare = true;
        int nots = 0;
        // What was so outside of each ( that is open: how many ! were, whether it may compare.
        List<Integer> notsOutside = new ArrayList<>();
        List<Boolean> mayCompareOutside = new ArrayList<>();
        for (int i = 0; i < words.size(); i++) {
            String word = words.get(i);
            int bad = places.get(i);
            boolean glued = i > 0 && isWord(word) && isWord(words.get(i - 1))
                && places.get(i - 1) + words.get(i - 1).length() == bad;
            if (glued) {
                return bad;
            }
            if (i == 0) {
                key = List.of(KEYS).indexOf(word);
                if (key < 0) {
                    return bad;
                }
                continue;
            }
            if (pieceIsDue) {
                if (word.equals("!")) {
                    if (++nots > 8) {
                        return bad;
                    }
                } else if (word.equals("(")) {
                    if (notsOutside.size() == 8) {
                        return bad;
                    }
                    notsOutside.add(nots);
                    mayCompareOutside.add(mayCompare);
                    mayCompare = true;
                } else if (word.matches("[0-9]{1,4}") || word.length() == 1 && NAMES[key].contains(word)) {
                    pieceIsDue = false;
                    nots = innermostNots(notsOutside);
                } else {
                    return bad;
                }
            } else if (word.equals(")")) {
                if (notsOutside.isEmpty()) {
                    return bad;
                }
                notsOutside.remove(notsOutside.size() - 1);
                mayCompare = mayCompareOutside.remove(mayCompareOutside.size() - 1);
                nots = innermostNots(notsOutside);
            } else if ("<=>".contains(word)) {
                if (!mayCompare) {
                    return bad;
                }
                mayCompare = false;
                pieceIsDue = true;
            } else if ("+-*/&|".contains(word)) {
                mayCompare |= "&|".contains(word);
                pieceIsDue = true;
            } else {
                return bad;
            }
        }
        return pieceIsDue || !notsOutside.isEmpty() ? length : -1;
    }

    private static int innermostNots(List<Integer> notsOutside) {
        return notsOutside.isEmpty() ? 0 : notsOutside.get(notsOutside.size() - 1);
    }

    int pieces() {
        return (int) words.subList(1, words.size()).stream().filter(PlainText::isWord).count();
    }

    int gives(int[] names) {
        return gives(words.subList(1, words.size()), names);
    }

    private int gives(List<String> row, int[] names) {
        for (String level : LEVELS) {
            int open = 0;
            for (int i = row.size() - 1; i >= 0; i--) {
                String word = row.get(i);
                open += word.equals(")") ? 1 : word.equals("(") ? -1 : 0;
                if (open == 0 && level.contains(word)) {
                    return join(word, gives(row.subList(0, i), names), gives(row.subList(i + 1, row.size()), names));
                }
            }
        }
        String first = row.get(0);
        if (first.equals("!")) {
            return gives(row.subList(1, row.size()), names) == 0 ? 1 : 0;
        }
        if (first.equals("(")) {
            return gives(row.subList(1, row.size() - 1), names);
        }
        return Character.isDigit(first.charAt(0)) ? Integer.parseInt(first) : names[NAMES[key].indexOf(first)];
    }

    private static int join(String sign, int a, int b) {
        boolean is;
        switch (sign) {
            case "|": is = a != 0 || b != 0; break;
            case "&": is = a != 0 && b != 0; break;
            case "<": is = a < b; break;
            case "=": is = a == b; break;
            case ">": is = a > b; break;
            case "+": return a + b;
            case "-": return a - b;
            case "*": return a * b;
            default: return b == 0 ? 0 : a / b;
        }
        return is ? 1 : 0;
    }
}
