import java.io.IOException;
import java.nio.file.Files;
import java.nio.file.Path;
import java.util.ArrayList;
import java.util.List;
import java.util.regex.Matcher;
import java.util.regex.Pattern;

/** What README.md says, to be tried out. */
final class Readme {
    private final String text;

    Readme() throws IOException {
        text = Files.readString(Path.of("README.md"));
    }

    /** The fenced blocks of this kind, in their order. */
    List<String> blocks(String kind) {
        Matcher block = Pattern.compile("(?ms)^```" + kind + "\n(.*?)^```$").matcher(text);
        List<String> blocks = new ArrayList<>();
        while (block.find()) {
            blocks.add(block.group(1));
        }
        return blocks;
    }

    /** The rows of the table whose first head is this, without the head: cells as they stand. */
    List<String[]> table(String head) {
        Matcher table = Pattern.compile("(?m)^\\| " + head + " \\|.*\n\\| ---.*\n((?:\\|.*\n)+)").matcher(text);
        List<String[]> rows = new ArrayList<>();
        if (table.find()) {
            for (String line : table.group(1).split("\n")) {
                rows.add(cells(line));
            }
        }
        return rows;
    }

    private static String[] cells(String line) {
        String[] cells = line.substring(1, line.lastIndexOf('|')).split("\\|", -1);
        for (int i = 0; i < cells.length; i++) {
            cells[i] = cells[i].trim();
        }
        return cells;
    }
}
