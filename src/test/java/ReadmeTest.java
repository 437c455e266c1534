import java.io.IOException;
import java.nio.file.Files;
import java.nio.file.Path;
import java.util.List;

/** The example of README.md: its lines stand here as they stand there, and answer what they say. */
public final class ReadmeTest {
    private static void example() {
        DiskPool pool = new DiskPool(8, 3, 48);     // 8 disks, stripes of 3 cells, 48 rows; it is on
        int directory = pool.make(0, 1, true);      // 1: a directory with the name 1 in the root, inode 0
        int file = pool.make(directory, 7, false);  // 2: a file with the name 7 in that directory
        int fed = pool.feed(8, 0x0102030405060708L); // 8: so many bytes are on the tape
        int size = pool.write(file, 0);             // 8: the tape went into the file, from its byte 0 on
        int blocks = pool.sync();                   // 6: so many blocks were changed; they are committed
        boolean failed = pool.fail(6);              // true: disk 6 fails, with the cell of the file's block
        long bytes = pool.read(file, 0);            // 0x0102030405060708: reckoned from the other cells of its stripe
        int step = pool.rebuild();                  // 1: one cell was rebuilt onto a spare; 0 when none is left
        boolean replaced = pool.replace(6);         // true: a new disk, all of whose cells are blank
        int copied = pool.copyBack();               // 1: one cell was copied to the new disk
        pool.lose(3);                               // power will be lost at the third write from now on
        int cut = pool.cut(file, 4);                // 4: the file has four bytes, not yet committed
        int lost = pool.sync();                     // -9: power was lost, the pool is off
        boolean opened = pool.open();               // true: it is on again
        int sizeThen = pool.node(file, 1);          // 8: what was not committed is as it was before

        Due.due("directory", 1, () -> directory);
        Due.due("file", 2, () -> file);
        Due.due("fed", 8, () -> fed);
        Due.due("size", 8, () -> size);
        Due.due("blocks", 6, () -> blocks);
        Due.due("failed", true, failed);
        Due.due("bytes", 0x0102030405060708L, () -> bytes);
        Due.due("step", 1, () -> step);
        Due.due("replaced", true, replaced);
        Due.due("copied", 1, () -> copied);
        Due.due("cut", 4, () -> cut);
        Due.due("lost", -9, () -> lost);
        Due.due("opened", true, opened);
        Due.due("sizeThen", 8, () -> sizeThen);
    }

    /** The lines between the first fence of Java and the next one. */
    private static List<String> toldIn(Path readme) throws IOException {
        List<String> lines = Files.readAllLines(readme);
        int first = lines.indexOf("```java") + 1;
        List<String> rest = lines.subList(first, lines.size());
        return rest.subList(0, rest.indexOf("```"));
    }

    public static void main(String[] args) throws IOException {
        example();
        List<String> told = toldIn(Path.of("README.md"));
        List<String> here = Files.readAllLines(Path.of("src/test/java/ReadmeTest.java"));
        Due.due("the example has lines", true, told.size() > 10);
        int from = here.indexOf("        " + told.get(0));
        for (int i = 0; i < told.size(); i++) {
            boolean same = from >= 0 && here.get(from + i).equals("        " + told.get(i));
            Due.due("the test has the line: " + told.get(i), true, same);
        }
        Due.end();
    }
}
