import java.io.IOException;
import java.nio.file.Files;
import java.nio.file.Path;
import java.util.ArrayList;
import java.util.List;
import java.util.stream.Collectors;
import java.util.stream.Stream;

/** A run of calls on a new object, as README.md tells that it is written. */
final class Run {
    static final String ANY = "";

    final String file;
    final String title;
    final List<Step> steps = new ArrayList<>();

    private Run(String file, String title) {
        this.file = file;
        this.title = title;
    }

    /** A call, the answer that is due (or ANY that is no exception), and where it stands. */
    static final class Step {
        final String where;
        final Call call;
        final String due;

        Step(String where, Call call, String due) {
            this.where = where;
            this.call = call;
            this.due = due;
        }
    }

    static List<Run> allIn(Path folder) throws IOException {
        List<Run> runs = new ArrayList<>();
        try (Stream<Path> files = Files.list(folder)) {
            for (Path file : files.filter(f -> f.toString().endsWith(".txt")).sorted().collect(Collectors.toList())) {
                runs.addAll(read(file));
            }
        }
        return runs;
    }

    private static List<Run> read(Path file) throws IOException {
        List<Run> runs = new ArrayList<>();
        int number = 0;
        for (String line : Files.readAllLines(file)) {
            number++;
            if (line.startsWith("== ")) {
                runs.add(new Run(file.getFileName().toString(), line.substring(3)));
            } else if (!line.isBlank() && !line.startsWith("#")) {
                for (String told : line.split(" \\| ")) {
                    runs.get(runs.size() - 1).add(told.strip(), file.getFileName() + ":" + number);
                }
            }
        }
        return runs;
    }

    private void add(String told, String line) {
        String where = line + " (" + title + "): ";
        if (told.startsWith("type ")) {
            for (char code : told.substring(5).toCharArray()) {
                steps.add(new Step(where, new Call("append", code), ANY));
            }
            return;
        }
        int sign = told.indexOf(" ! ") >= 0 ? told.indexOf(" ! ") : told.indexOf(" = ");
        String due = sign < 0 ? "void" : told.charAt(sign + 1) == '!' ? told.substring(sign + 1)
                : told.substring(sign + 3);
        String[] words = (sign < 0 ? told : told.substring(0, sign)).split(" ");
        boolean isRepeated = words[0].endsWith("*");
        int times = isRepeated ? Integer.parseInt(words[0].substring(0, words[0].length() - 1)) : 1;
        List<Call> calls = calls(words, isRepeated ? 1 : 0);
        for (int i = 0; i < times; i++) {
            for (Call call : calls) {
                steps.add(new Step(where, call, due));
            }
        }
    }

    /** The calls that the words from the first one on tell: a name, and for each parameter one value or more. */
    private static List<Call> calls(String[] words, int first) {
        List<int[]> rows = new ArrayList<>();
        rows.add(new int[words.length - first - 1]);
        for (int i = first + 1; i < words.length; i++) {
            List<int[]> more = new ArrayList<>();
            for (int[] row : rows) {
                for (int value : values(words[i])) {
                    int[] twin = row.clone();
                    twin[i - first - 1] = value;
                    more.add(twin);
                }
            }
            rows = more;
        }
        return rows.stream().map(row -> new Call(words[first], row)).collect(Collectors.toList());
    }

    /** "5" is one value, "5,7" two, "5..7" three. */
    private static List<Integer> values(String word) {
        List<Integer> all = new ArrayList<>();
        for (String item : word.split(",")) {
            int dots = item.indexOf("..");
            int from = Integer.parseInt(dots < 0 ? item : item.substring(0, dots));
            int to = Integer.parseInt(dots < 0 ? item : item.substring(dots + 2));
            for (long value = from; value <= to; value++) {
                all.add((int) value);
            }
        }
        return all;
    }
}
